/-! the model: colours, dyes -/
/-- whether colour x may stand at the house behind the list L: those j first ones -/
def okj (r : Nat → Int32) (but : Int32) (L : List Nat) (x : Nat) : Nat → Bool
  | 0 => true
  | j + 1 => okj r but L x j && (decide (nI j = but) || !(tB r L.length).testBit j || decide (L.getD j 0 ≠ x))
/-- the first colour from x on by which the rest can be, e colours being left -/
def dyl (f : List Nat → Option (List Nat)) (ok : Nat → Bool) (L : List Nat) : Nat → Nat → Option (List Nat)
  | 0, _ => none
  | e + 1, x => if ok x then (match f (L ++ [x]) with | some q => some q | none => dyl f ok L e (x + 1)) else dyl f ok L e (x + 1)
/-- the first colouring that goes on from L, d houses being left -/
def dy (r : Nat → Int32) (but : Int32) (many : Nat) : Nat → List Nat → Option (List Nat)
  | 0, L => some L
  | d + 1, L => if nI L.length = but then dy r but many d (L ++ [0]) else dyl (dy r but many d) (fun x => okj r but L x L.length) L many 0
/-- the row holds the colours of L -/
def cw (but : Int32) (L : List Nat) (row : Nat → Int32) : Prop := ∀ i, i < L.length → ¬ nI i = but → row i = nI (L.getD i 0)
def S_dyes (d : Nat) : px_S := fun av σ k => ∃ (L : List Nat) (many : Nat) (but : Int32), av = [.inr (.inr (some 0)), .inl (nI L.length), .inl (nI many), .inl but] ∧ mt_R σ.2.2 ∧ tok (σ.1 1) ∧ L.length + d = tN (σ.1 1) ∧ many ≤ 12 ∧ (∀ i, L.getD i 0 ≤ 12) ∧ cw but L (σ.1 16) ∧
  ∀ τ, fr 16 σ τ → (match dy (σ.1 1) but many d L with
    | some q => cw but q (τ.1 16) → k (some (.inl (nI 1))) τ
    | none => cw but L (τ.1 16) → k (some (.inl (nI 0))) τ)
theorem okj_f {r : Nat → Int32} {but : Int32} {L : List Nat} {x : Nat} : ∀ {n j : Nat}, j ≤ n → okj r but L x j = false → okj r but L x n = false := by
  intro n
  induction n with
  | zero => intro j h hf; have : j = 0 := by omega
            subst this; exact hf
  | succ n ih =>
    intro j h hf
    by_cases hj : j = n + 1
    · subst hj; exact hf
    · simp [okj, ih (j := j) (by omega) hf]
def I_dy5 (L : List Nat) (many x : Nat) (but : Int32) (σ τ0 : px_M) : Nat → px_Ls → px_M → Prop := fun j ls τ => ls = [some (.inr (.inr (some 0))), some (.inl (nI L.length)), some (.inl (nI many)), some (.inl but), some (.inl (nI x)), some (.inl (mb (okj (σ.1 1) but L x j))), some (.inl (nI j))] ∧ τ = τ0
def I_dy4 (L : List Nat) (many : Nat) (but : Int32) (σ : px_M) (f : List Nat → Option (List Nat)) : Nat → px_Ls → px_M → Prop := fun x ls τ => ∃ z5 z6, ls = [some (.inr (.inr (some 0))), some (.inl (nI L.length)), some (.inl (nI many)), some (.inl but), some (.inl (nI x)), z5, z6] ∧ fr 16 σ τ ∧ cw but L (τ.1 16) ∧ dyl f (fun x => okj (σ.1 1) but L x L.length) L many 0 = dyl f (fun x => okj (σ.1 1) but L x L.length) L (many - x) x
def I_dy98 (L : List Nat) (many x : Nat) (but : Int32) (σ : px_M) (f : List Nat → Option (List Nat)) : px_Ls → px_M → Prop := fun ls τ => fr 16 σ τ ∧ cw but L (τ.1 16) ∧ dyl f (fun x => okj (σ.1 1) but L x L.length) L many 0 = dyl f (fun x => okj (σ.1 1) but L x L.length) L (many - x) x ∧ ∃ z6, ls = [some (.inr (.inr (some 0))), some (.inl (nI L.length)), some (.inl (nI many)), some (.inl but), some (.inl (nI x)), some (.inl (mb (okj (σ.1 1) but L x L.length))), z6]
theorem gd_app (L : List Nat) (x i : Nat) : (L ++ [x]).getD i 0 = if i < L.length then L.getD i 0 else if i = L.length then x else 0 := by
  simp only [List.getD_eq_getElem?_getD]
  by_cases h1 : i < L.length
  · rw [if_pos h1, List.getElem?_append_left h1]
  · rw [if_neg h1, List.getElem?_append_right (by omega)]
    by_cases h2 : i = L.length
    · subst h2; simp
    · rw [if_neg h2]
      have : ¬ i - L.length = 0 := by omega
      cases hq : i - L.length with
      | zero => exact absurd hq this
      | succ m => simp
theorem cw_app {but : Int32} {L : List Nat} {x : Nat} {row : Nat → Int32} (h : cw but (L ++ [x]) row) : cw but L row := by
  intro i hi hne
  have := h i (by simp; omega) hne
  rw [gd_app, if_pos hi] at this
  exact this
theorem m_dyes {tab : px_T} (ht : mt_ok tab) : ∀ (d : Nat) {h : Nat}, d + 2 ≤ h → px_Ok tab pn_i42 h (S_dyes d) := by
  intro d
  induction d with
  | zero =>
    intro h hh
    refine px_mth ht.1 (by decide +kernel) (fun av σ k hS => by obtain ⟨L, many, but, rfl, -⟩ := hS; exact Nat.le_of_ble_eq_true rfl) (fun C hT hC av σ k hS => ?_)
    obtain ⟨L, many, but, rfl, hR, htk, hL, hm, hc, hcw, hS⟩ := hS
    subst hT
    obtain ⟨hn, h1, hnb, hlt⟩ := id htk
    have hLn : L.length = tN (σ.1 1) := by omega
    refine px_runG (h - 1) ck_42 [] [(12, fun _ _ _ => False)] 24 hC px_nosp (by omega) (px_cut1 (fun _ _ _ hz => hz.elim) px_nocut) (fun G Jf hG hJf => ?_)
    simp only [↓hG, ↓hJf, ↓px_go, ↓px_vc, ↓px_ex, ↓px_jp, ↓px_gi, ↓px_gl, ↓px_gr, ↓px_s1, ↓px_s2, ↓px_nl, ↓px_i1, ↓px_l1, ↓px_r1, ↓px_q1, ↓px_i2, ↓px_l2, ↓px_il, ↓px_d0, ↓px_d1, ↓px_d2, ↓px_pop, px_sz, ↓px_sp, ↓px_obj, ↓px_arr, ↓px_rd, ↓px_pt, ↓px_rok, ↓px_rv, ↓px_fill, ↓px_sl, ↓px_li, ↓px_l0, ↓px_lw, ↓px_lc, px_wi, px_wl, px_wr, px_up_at, lc_lt, lc_ge, lc_gt, lc_le, lc_eq, ↓reduceIte, Nat.reduceEqDiff, Nat.reduceLeDiff, Nat.reduceAdd, Nat.reduceSub, reduceCtorEq, List.length_cons, List.length_nil, Option.toList_some, Option.toList_none, List.cons_append, List.nil_append, true_and, and_true, false_and, and_false, true_or, or_true, false_or, or_false, and_self, or_self, not_false_eq_true, not_true_eq_false, false_implies, forall_const, true_implies, ↓bk_42, ↓pn_i42, mt_0 ht, mt_1 ht, mr_1 hR]
    try simp (disch := omega) only [true_and, and_true, mb_bit, mb_house, bcI_eq, px_up_row, ni_divL, ni_subL, nI_add, pk_mul, nI_leI, nI_ltI, nI_eq, vp_in_eq, nI_clamp, fa_and, fa_or, ni_bit1, ni_1s, nI_l, mb_eq0, mb_ne0, mb_eq1, h1]
    refine ⟨by omega, fun q => absurd hLn q, fun q => ?_⟩
    exact hS σ (fr_rf 16 σ) hcw
  | succ d ih =>
    intro h hh
    refine px_mth ht.1 (by decide +kernel) (fun av σ k hS => by obtain ⟨L, many, but, rfl, -⟩ := hS; exact Nat.le_of_ble_eq_true rfl) (fun C hT hC av σ k hS => ?_)
    obtain ⟨L, many, but, rfl, hR, htk, hL, hm, hc, hcw, hS⟩ := hS
    subst hT
    obtain ⟨hn, h1, hnb, hlt⟩ := id htk
    have hLn : L.length < tN (σ.1 1) := by omega
    have hL11 : L.length < 11 := by omega
    have hlL := hlt L.length hL11
    have hrec : ∀ q ∈ [(42, S_dyes d)], px_Ok (px_tb C) (pn_i q.1) (h - 1) q.2 := px_sp1 (ih (by omega)) px_nosp
    -- at 98: a colour that may stand is tried
    have l98 := fun (x : Nat) (hx : x < many) (nx : ∀ ls τ, I_dy4 L many but σ (dy (σ.1 1) but many d) (x + 1) ls τ → px_W C k 30 ls [] τ) (hno : ¬ nI L.length = but) => fun ls τ (hI : I_dy98 L many x but σ (dy (σ.1 1) but many d) ls τ) => (show px_W C k 98 ls [] τ by
      obtain ⟨hfr, hcw2, hdl, z6, rfl⟩ := hI
      have hr1 : τ.1 1 = σ.1 1 := hfr.1 1 (by decide)
      have hR' : mt_R τ.2.2 := by rw [hfr.2]; exact hR
      have hmx : many - x = (many - (x + 1)) + 1 := by omega
      refine px_runG (h - 1) ck_42 [(42, S_dyes d)] [(30, px_lw (I_dy4 L many but σ (dy (σ.1 1) but many d) (x + 1)))] 24 hC hrec (by omega) (px_cut1 (px_lw_ok nx) px_nocut) (fun G Jf hG hJf => ?_)
      cases hok : okj (σ.1 1) but L x L.length with
      | false =>
        rw [show mb false = nI 0 from rfl]
        simp only [↓hG, ↓hJf, ↓px_go, ↓px_vc, ↓px_ex, ↓px_jp, ↓px_gi, ↓px_gl, ↓px_gr, ↓px_s1, ↓px_s2, ↓px_nl, ↓px_i1, ↓px_l1, ↓px_r1, ↓px_q1, ↓px_i2, ↓px_l2, ↓px_il, ↓px_d0, ↓px_d1, ↓px_d2, ↓px_pop, px_sz, ↓px_sp, ↓px_obj, ↓px_arr, ↓px_rd, ↓px_pt, ↓px_rok, ↓px_rv, ↓px_fill, ↓px_sl, ↓px_li, ↓px_l0, ↓px_lw, ↓px_lc, px_wi, px_wl, px_wr, px_up_at, lc_lt, lc_ge, lc_gt, lc_le, lc_eq, ↓reduceIte, Nat.reduceEqDiff, Nat.reduceLeDiff, Nat.reduceAdd, Nat.reduceSub, reduceCtorEq, List.length_cons, List.length_nil, Option.toList_some, Option.toList_none, List.cons_append, List.nil_append, true_and, and_true, false_and, and_false, true_or, or_true, false_or, or_false, and_self, or_self, not_false_eq_true, not_true_eq_false, false_implies, forall_const, true_implies, ↓bk_42, ↓pn_i42, mt_0 ht, mt_1 ht, mt_16 ht, mr_1 hR', mr_16 hR', S_dyes, I_dy4]
        try simp (disch := omega) only [true_and, and_true, mb_bit, mb_house, bcI_eq, px_up_row, ni_divL, ni_subL, nI_add, pk_mul, nI_leI, nI_ltI, nI_eq, vp_in_eq, nI_clamp, fa_and, fa_or, ni_bit1, ni_1s, nI_l, mb_eq0, mb_ne0, mb_eq1, h1]
        refine ⟨_, _, rfl, hfr, hcw2, ?_⟩
        rw [hdl, hmx]
        simp [dyl, hok]
      | true =>
        rw [show mb true = nI 1 from rfl]
        simp only [↓hG, ↓hJf, ↓px_go, ↓px_vc, ↓px_ex, ↓px_jp, ↓px_gi, ↓px_gl, ↓px_gr, ↓px_s1, ↓px_s2, ↓px_nl, ↓px_i1, ↓px_l1, ↓px_r1, ↓px_q1, ↓px_i2, ↓px_l2, ↓px_il, ↓px_d0, ↓px_d1, ↓px_d2, ↓px_pop, px_sz, ↓px_sp, ↓px_obj, ↓px_arr, ↓px_rd, ↓px_pt, ↓px_rok, ↓px_rv, ↓px_fill, ↓px_sl, ↓px_li, ↓px_l0, ↓px_lw, ↓px_lc, px_wi, px_wl, px_wr, px_up_at, lc_lt, lc_ge, lc_gt, lc_le, lc_eq, ↓reduceIte, Nat.reduceEqDiff, Nat.reduceLeDiff, Nat.reduceAdd, Nat.reduceSub, reduceCtorEq, List.length_cons, List.length_nil, Option.toList_some, Option.toList_none, List.cons_append, List.nil_append, true_and, and_true, false_and, and_false, true_or, or_true, false_or, or_false, and_self, or_self, not_false_eq_true, not_true_eq_false, false_implies, forall_const, true_implies, ↓bk_42, ↓pn_i42, mt_0 ht, mt_1 ht, mt_16 ht, mr_1 hR', mr_16 hR', S_dyes, I_dy4]
        try simp (disch := omega) only [true_and, and_true, mb_bit, mb_house, bcI_eq, px_up_row, ni_divL, ni_subL, nI_add, pk_mul, nI_leI, nI_ltI, nI_eq, vp_in_eq, nI_clamp, fa_and, fa_or, ni_bit1, ni_1s, nI_l, mb_eq0, mb_ne0, mb_eq1, h1, hr1]
        refine ⟨fun _ => ⟨by omega, L ++ [x], many, but, by simp, hR', htk, by simp; omega, hm, fun i => ?_, fun i hi hne => ?_, fun υ hu => ?_⟩, fun q => absurd q (by omega)⟩
        · rw [gd_app]
          split
          · exact hc i
          · split <;> omega
        · rw [up_s, gd_app]
          by_cases hil : i = L.length
          · rw [if_pos hil, if_neg (by omega), if_pos hil]
          · have : i < L.length := by simp at hi; omega
            rw [if_neg hil, if_pos this]
            exact hcw2 i this hne
        · have hfu : fr 16 σ υ := fr_tr (fr_up hfr _ _) hu
          have e : dy (σ.1 1) but many (d + 1) L = dyl (dy (σ.1 1) but many d) (fun x => okj (σ.1 1) but L x L.length) L (many - x) x := by
            simp only [dy, if_neg hno]; exact hdl
          have hSu := hS υ hfu
          rw [e, hmx] at hSu
          cases hq : dy (σ.1 1) but many d (L ++ [x]) with
          | some q0 =>
            intro hcq
            simp only [dyl, hok, if_true, hq] at hSu
            exact ⟨fun z => absurd z (by omega), fun _ => hSu hcq⟩
          | none =>
            intro hcq
            refine ⟨_, _, rfl, hfu, cw_app hcq, ?_⟩
            rw [hdl, hmx]
            simp [dyl, hok, hq])
    -- at 42: whether a colour may stand
    have lp5 := fun (x : Nat) (hx : x < many) (nx : ∀ ls τ, I_dy4 L many but σ (dy (σ.1 1) but many d) (x + 1) ls τ → px_W C k 30 ls [] τ) (hno : ¬ nI L.length = but) (τ0 : px_M) (hfr : fr 16 σ τ0) (hcw2 : cw but L (τ0.1 16)) (hdl : dyl (dy (σ.1 1) but many d) (fun x => okj (σ.1 1) but L x L.length) L many 0 = dyl (dy (σ.1 1) but many d) (fun x => okj (σ.1 1) but L x L.length) L (many - x) x) => px_loop (C := C) (k := k) (pc := 42) (I_dy5 L many x but σ τ0) L.length (fun j ls τ hj hI hn2 => by
      obtain ⟨rfl, rfl⟩ := hI
      have hr1 : τ.1 1 = σ.1 1 := hfr.1 1 (by decide)
      have hR' : mt_R τ.2.2 := by rw [hfr.2]; exact hR
      refine px_runG (h - 1) ck_42 [(31, S_near), (14, S_isIn)] [(42, px_li (I_dy5 L many x but σ τ) j L.length), (98, px_lw (I_dy98 L many x but σ (dy (σ.1 1) but many d)))] 24 hC (px_sp1 (m_near ht (by omega)) (px_sp1 (m_isIn ht (by omega)) px_nosp)) (by omega) (px_cut1 (px_li_ok hn2) (px_cut1 (px_lw_ok (l98 x hx nx hno)) px_nocut)) (fun G Jf hG hJf => ?_)
      cases hok : okj (σ.1 1) but L x j with
      | false =>
        rw [show mb false = nI 0 from rfl]
        simp only [↓hG, ↓hJf, ↓px_go, ↓px_vc, ↓px_ex, ↓px_jp, ↓px_gi, ↓px_gl, ↓px_gr, ↓px_s1, ↓px_s2, ↓px_nl, ↓px_i1, ↓px_l1, ↓px_r1, ↓px_q1, ↓px_i2, ↓px_l2, ↓px_il, ↓px_d0, ↓px_d1, ↓px_d2, ↓px_pop, px_sz, ↓px_sp, ↓px_obj, ↓px_arr, ↓px_rd, ↓px_pt, ↓px_rok, ↓px_rv, ↓px_fill, ↓px_sl, ↓px_li, ↓px_l0, ↓px_lw, ↓px_lc, px_wi, px_wl, px_wr, px_up_at, lc_lt, lc_ge, lc_gt, lc_le, lc_eq, ↓reduceIte, Nat.reduceEqDiff, Nat.reduceLeDiff, Nat.reduceAdd, Nat.reduceSub, reduceCtorEq, List.length_cons, List.length_nil, Option.toList_some, Option.toList_none, List.cons_append, List.nil_append, true_and, and_true, false_and, and_false, true_or, or_true, false_or, or_false, and_self, or_self, not_false_eq_true, not_true_eq_false, false_implies, forall_const, true_implies, ↓bk_42, ↓pn_i42, mt_0 ht, mt_1 ht, mt_16 ht, mr_1 hR', mr_16 hR', S_near, S_isIn, I_dy5, I_dy98]
        try simp (disch := omega) only [true_and, and_true, mb_bit, mb_house, bcI_eq, px_up_row, ni_divL, ni_subL, nI_add, pk_mul, nI_leI, nI_ltI, nI_eq, vp_in_eq, nI_clamp, fa_and, fa_or, ni_bit1, ni_1s, nI_l, mb_eq0, mb_ne0, mb_eq1, h1, hr1, hnb]
        have hf := okj_f hj hok
        rw [hf]
        exact ⟨fun _ => ⟨hfr, hcw2, hdl, _, rfl⟩, fun _ => ⟨hfr, hcw2, hdl, _, rfl⟩⟩
      | true =>
        rw [show mb true = nI 1 from rfl]
        simp only [↓hG, ↓hJf, ↓px_go, ↓px_vc, ↓px_ex, ↓px_jp, ↓px_gi, ↓px_gl, ↓px_gr, ↓px_s1, ↓px_s2, ↓px_nl, ↓px_i1, ↓px_l1, ↓px_r1, ↓px_q1, ↓px_i2, ↓px_l2, ↓px_il, ↓px_d0, ↓px_d1, ↓px_d2, ↓px_pop, px_sz, ↓px_sp, ↓px_obj, ↓px_arr, ↓px_rd, ↓px_pt, ↓px_rok, ↓px_rv, ↓px_fill, ↓px_sl, ↓px_li, ↓px_l0, ↓px_lw, ↓px_lc, px_wi, px_wl, px_wr, px_up_at, lc_lt, lc_ge, lc_gt, lc_le, lc_eq, ↓reduceIte, Nat.reduceEqDiff, Nat.reduceLeDiff, Nat.reduceAdd, Nat.reduceSub, reduceCtorEq, List.length_cons, List.length_nil, Option.toList_some, Option.toList_none, List.cons_append, List.nil_append, true_and, and_true, false_and, and_false, true_or, or_true, false_or, or_false, and_self, or_self, not_false_eq_true, not_true_eq_false, false_implies, forall_const, true_implies, ↓bk_42, ↓pn_i42, mt_0 ht, mt_1 ht, mt_16 ht, mr_1 hR', mr_16 hR', S_near, S_isIn, I_dy5, I_dy98]
        try simp (disch := omega) only [true_and, and_true, mb_bit, mb_house, bcI_eq, px_up_row, ni_divL, ni_subL, nI_add, pk_mul, nI_leI, nI_ltI, nI_eq, vp_in_eq, nI_clamp, fa_and, fa_or, ni_bit1, ni_1s, nI_l, mb_eq0, mb_ne0, mb_eq1, h1, hr1, hnb]
        refine ⟨fun q => ?_, fun q => ⟨fun z => absurd z (by omega), fun _ => ⟨fun hb => ⟨by omega, ?_⟩, fun hb => ⟨hR', by omega, fun hn0 => ⟨by omega, ?_⟩, fun hn1 => ⟨by omega, fun hx1 => ⟨by omega, ?_⟩, fun hx0 => ⟨by omega, ?_⟩⟩⟩⟩⟩⟩
        · have : j = L.length := by omega
          rw [← this, hok]
          exact ⟨hfr, hcw2, by rw [this]; exact hdl, _, rfl⟩
        · rw [show okj (σ.1 1) but L x (j + 1) = true by simp [okj, hok, hb]]; rfl
        · rw [show okj (σ.1 1) but L x (j + 1) = true by simp [okj, hok, hn0]]; rfl
        · have hLx : L.getD j 0 = x := by
            have e := hcw2 j (by omega) hb
            rw [hx1] at e
            have := hc j
            exact ((nI_eq (by omega) (by omega)).mp e).symm
          have hn1' : (tB (σ.1 1) L.length).testBit j = true := by simpa using hn1
          rw [show okj (σ.1 1) but L x (j + 1) = false by simp only [okj, hok, hn1', hLx, decide_eq_false hb]; simp]; rfl
        · have hLx : ¬ L.getD j 0 = x := by
            intro e
            apply hx0
            rw [hcw2 j (by omega) hb, e]
          rw [show okj (σ.1 1) but L x (j + 1) = true by simp only [okj, hok, decide_eq_true hLx]; simp]; rfl)
    -- at 30: the colours one behind another
    have lp4 := fun (hno : ¬ nI L.length = but) => px_loop (C := C) (k := k) (pc := 30) (I_dy4 L many but σ (dy (σ.1 1) but many d)) many (fun x ls τ hx hI hn2 => by
      obtain ⟨z5, z6, rfl, hfr, hcw2, hdl⟩ := hI
      have hR' : mt_R τ.2.2 := by rw [hfr.2]; exact hR
      by_cases hxm : x < many
      · refine px_runG (h - 1) ck_42 [] [(42, px_l0 (I_dy5 L many x but σ τ))] 24 hC px_nosp (by omega) (px_cut1 (px_l0_ok (lp5 x hxm (fun ls τ hI => hn2 ls τ hxm hI) hno τ hfr hcw2 hdl)) px_nocut) (fun G Jf hG hJf => ?_)
        simp only [↓hG, ↓hJf, ↓px_go, ↓px_vc, ↓px_ex, ↓px_jp, ↓px_gi, ↓px_gl, ↓px_gr, ↓px_s1, ↓px_s2, ↓px_nl, ↓px_i1, ↓px_l1, ↓px_r1, ↓px_q1, ↓px_i2, ↓px_l2, ↓px_il, ↓px_d0, ↓px_d1, ↓px_d2, ↓px_pop, px_sz, ↓px_sp, ↓px_obj, ↓px_arr, ↓px_rd, ↓px_pt, ↓px_rok, ↓px_rv, ↓px_fill, ↓px_sl, ↓px_li, ↓px_l0, ↓px_lw, ↓px_lc, px_wi, px_wl, px_wr, px_up_at, lc_lt, lc_ge, lc_gt, lc_le, lc_eq, ↓reduceIte, Nat.reduceEqDiff, Nat.reduceLeDiff, Nat.reduceAdd, Nat.reduceSub, reduceCtorEq, List.length_cons, List.length_nil, Option.toList_some, Option.toList_none, List.cons_append, List.nil_append, true_and, and_true, false_and, and_false, true_or, or_true, false_or, or_false, and_self, or_self, not_false_eq_true, not_true_eq_false, false_implies, forall_const, true_implies, ↓bk_42, ↓pn_i42, I_dy5]
        try simp (disch := omega) only [true_and, and_true, mb_bit, mb_house, bcI_eq, px_up_row, ni_divL, ni_subL, nI_add, pk_mul, nI_leI, nI_ltI, nI_eq, vp_in_eq, nI_clamp, fa_and, fa_or, ni_bit1, ni_1s, nI_l, mb_eq0, mb_ne0, mb_eq1]
        exact ⟨fun q => absurd q (by omega), fun _ => rfl⟩
      · have hxe : x = many := by omega
        subst hxe
        refine px_runG (h - 1) ck_42 [] [(42, fun _ _ _ => False)] 24 hC px_nosp (by omega) (px_cut1 (fun _ _ _ hz => hz.elim) px_nocut) (fun G Jf hG hJf => ?_)
        simp only [↓hG, ↓hJf, ↓px_go, ↓px_vc, ↓px_ex, ↓px_jp, ↓px_gi, ↓px_gl, ↓px_gr, ↓px_s1, ↓px_s2, ↓px_nl, ↓px_i1, ↓px_l1, ↓px_r1, ↓px_q1, ↓px_i2, ↓px_l2, ↓px_il, ↓px_d0, ↓px_d1, ↓px_d2, ↓px_pop, px_sz, ↓px_sp, ↓px_obj, ↓px_arr, ↓px_rd, ↓px_pt, ↓px_rok, ↓px_rv, ↓px_fill, ↓px_sl, ↓px_li, ↓px_l0, ↓px_lw, ↓px_lc, px_wi, px_wl, px_wr, px_up_at, lc_lt, lc_ge, lc_gt, lc_le, lc_eq, ↓reduceIte, Nat.reduceEqDiff, Nat.reduceLeDiff, Nat.reduceAdd, Nat.reduceSub, reduceCtorEq, List.length_cons, List.length_nil, Option.toList_some, Option.toList_none, List.cons_append, List.nil_append, true_and, and_true, false_and, and_false, true_or, or_true, false_or, or_false, and_self, or_self, not_false_eq_true, not_true_eq_false, false_implies, forall_const, true_implies, ↓bk_42, ↓pn_i42]
        try simp (disch := omega) only [true_and, and_true, mb_bit, mb_house, bcI_eq, px_up_row, ni_divL, ni_subL, nI_add, pk_mul, nI_leI, nI_ltI, nI_eq, vp_in_eq, nI_clamp, fa_and, fa_or, ni_bit1, ni_1s, nI_l, mb_eq0, mb_ne0, mb_eq1]
        refine ⟨fun _ => ?_, fun q => absurd (Nat.le_refl _) q⟩
        have hSt := hS τ hfr
        have e : dy (σ.1 1) but x (d + 1) L = none := by
          simp only [dy, if_neg hno]
          rw [hdl, Nat.sub_self]
          rfl
        rw [e] at hSt
        exact hSt hcw2)
    by_cases hbut : nI L.length = but
    · refine px_runG (h - 1) ck_42 [(42, S_dyes d)] [(30, fun _ _ _ => False)] 24 hC hrec (by omega) (px_cut1 (fun _ _ _ hz => hz.elim) px_nocut) (fun G Jf hG hJf => ?_)
      simp only [↓hG, ↓hJf, ↓px_go, ↓px_vc, ↓px_ex, ↓px_jp, ↓px_gi, ↓px_gl, ↓px_gr, ↓px_s1, ↓px_s2, ↓px_nl, ↓px_i1, ↓px_l1, ↓px_r1, ↓px_q1, ↓px_i2, ↓px_l2, ↓px_il, ↓px_d0, ↓px_d1, ↓px_d2, ↓px_pop, px_sz, ↓px_sp, ↓px_obj, ↓px_arr, ↓px_rd, ↓px_pt, ↓px_rok, ↓px_rv, ↓px_fill, ↓px_sl, ↓px_li, ↓px_l0, ↓px_lw, ↓px_lc, px_wi, px_wl, px_wr, px_up_at, lc_lt, lc_ge, lc_gt, lc_le, lc_eq, ↓reduceIte, Nat.reduceEqDiff, Nat.reduceLeDiff, Nat.reduceAdd, Nat.reduceSub, reduceCtorEq, List.length_cons, List.length_nil, Option.toList_some, Option.toList_none, List.cons_append, List.nil_append, true_and, and_true, false_and, and_false, true_or, or_true, false_or, or_false, and_self, or_self, not_false_eq_true, not_true_eq_false, false_implies, forall_const, true_implies, ↓bk_42, ↓pn_i42, mt_0 ht, mt_1 ht, mr_1 hR, S_dyes]
      try simp (disch := omega) only [true_and, and_true, mb_bit, mb_house, bcI_eq, px_up_row, ni_divL, ni_subL, nI_add, pk_mul, nI_leI, nI_ltI, nI_eq, vp_in_eq, nI_clamp, fa_and, fa_or, ni_bit1, ni_1s, nI_l, mb_eq0, mb_ne0, mb_eq1, h1]
      refine ⟨by omega, fun _ => ⟨fun q => absurd hbut q, fun _ => ⟨L ++ [0], many, but, by simp, hR, htk, by simp; omega, hm, fun i => ?_, fun i hi hne => ?_, fun τ hf => ?_⟩⟩, fun q => absurd q (by omega)⟩
      · rw [gd_app]
        split
        · exact hc i
        · split <;> omega
      · have hil : ¬ i = L.length := fun q => hne (by rw [q]; exact hbut)
        have : i < L.length := by simp at hi; omega
        rw [gd_app, if_pos this]
        exact hcw i this hne
      · have hSt := hS τ hf
        have e : dy (σ.1 1) but many (d + 1) L = dy (σ.1 1) but many d (L ++ [0]) := by simp only [dy, if_pos hbut]
        rw [e] at hSt
        cases hq : dy (σ.1 1) but many d (L ++ [0]) with
        | some q0 => rw [hq] at hSt; exact hSt
        | none => rw [hq] at hSt; exact fun hz => hSt (cw_app hz)
    · refine px_runG (h - 1) ck_42 [] [(30, px_l0 (I_dy4 L many but σ (dy (σ.1 1) but many d)))] 24 hC px_nosp (by omega) (px_cut1 (px_l0_ok (lp4 hbut)) px_nocut) (fun G Jf hG hJf => ?_)
      simp only [↓hG, ↓hJf, ↓px_go, ↓px_vc, ↓px_ex, ↓px_jp, ↓px_gi, ↓px_gl, ↓px_gr, ↓px_s1, ↓px_s2, ↓px_nl, ↓px_i1, ↓px_l1, ↓px_r1, ↓px_q1, ↓px_i2, ↓px_l2, ↓px_il, ↓px_d0, ↓px_d1, ↓px_d2, ↓px_pop, px_sz, ↓px_sp, ↓px_obj, ↓px_arr, ↓px_rd, ↓px_pt, ↓px_rok, ↓px_rv, ↓px_fill, ↓px_sl, ↓px_li, ↓px_l0, ↓px_lw, ↓px_lc, px_wi, px_wl, px_wr, px_up_at, lc_lt, lc_ge, lc_gt, lc_le, lc_eq, ↓reduceIte, Nat.reduceEqDiff, Nat.reduceLeDiff, Nat.reduceAdd, Nat.reduceSub, reduceCtorEq, List.length_cons, List.length_nil, Option.toList_some, Option.toList_none, List.cons_append, List.nil_append, true_and, and_true, false_and, and_false, true_or, or_true, false_or, or_false, and_self, or_self, not_false_eq_true, not_true_eq_false, false_implies, forall_const, true_implies, ↓bk_42, ↓pn_i42, mt_0 ht, mt_1 ht, mr_1 hR, I_dy4]
      try simp (disch := omega) only [true_and, and_true, mb_bit, mb_house, bcI_eq, px_up_row, ni_divL, ni_subL, nI_add, pk_mul, nI_leI, nI_ltI, nI_eq, vp_in_eq, nI_clamp, fa_and, fa_or, ni_bit1, ni_1s, nI_l, mb_eq0, mb_ne0, mb_eq1, h1]
      exact ⟨by omega, fun _ => ⟨fun _ => ⟨_, _, rfl, fr_rf 16 σ, hcw, rfl⟩, fun q => absurd q hbut⟩, fun q => absurd q (by omega)⟩
