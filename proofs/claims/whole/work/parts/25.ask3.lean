/-! threes: how many, which; sets of three that meet or don't; the calmest six -/
section
variable {σ τ : px_M} {t n : Nat} {B : Nat → Nat}
/-- three houses are neighbours of one another -/
def e3 (B : Nat → Nat) (a b c : Nat) : Nat := ((B a).testBit b && (B a).testBit c && (B b).testBit c).toNat
theorem e3_1 (hw : wf n B) (a b c : Nat) : e3 B a b c = e3 B b a c := by
  unfold e3
  rw [hw.2.2.2.1 b a]
  cases (B a).testBit b <;> cases (B a).testBit c <;> cases (B b).testBit c <;> rfl
theorem e3_2 (hw : wf n B) (a b c : Nat) : e3 B a b c = e3 B a c b := by
  unfold e3
  rw [hw.2.2.2.1 c b]
  cases (B a).testBit b <;> cases (B a).testBit c <;> cases (B b).testBit c <;> rfl
theorem e3_d (hw : wf n B) (a c : Nat) : e3 B a a c = 0 := by
  unfold e3
  rw [hw.2.2.2.2 a]; rfl
theorem e3_le (a b c : Nat) : e3 B a b c ≤ 1 := Bool.toNat_le _
theorem bc_n (hw : wf n B) {s : Nat} (hs : s < 2 ^ n) : bc 11 s = sm (fun i => (s.testBit i).toNat) n := by rw [bc_11 hw.1 hs, bc_sm]
theorem and_2n {s u : Nat} (h : s < 2 ^ n) : s &&& u < 2 ^ n := Nat.lt_of_le_of_lt Nat.and_le_left h
theorem th2_e3 (hw : wf n B) (h : Nat) : th2 n B h = sm (fun a => sm (fun c => e3 B h a c) n) n := by
  unfold th2
  refine sm_congr (fun a _ => ?_)
  cases hb : (B h).testBit a
  · rw [if_neg (by simp), sm_congr (g := fun _ => 0) (fun c _ => by unfold e3; rw [hb]; rfl), sm_0]
  · rw [if_pos rfl, bc_n hw (and_2n (hw.2.1 h))]
    refine sm_congr (fun c _ => ?_)
    unfold e3
    rw [hb, Nat.testBit_and, Bool.true_and]
theorem tr_t3 (hw : wf n B) : tr n B = t3 (e3 B) n := by
  rw [← sm_up3]
  unfold tr
  refine sm_congr (fun a _ => sm_congr (fun b _ => ?_))
  by_cases hab : a < b
  · rw [if_pos hab, if_pos hab]
    cases hb : (B a).testBit b
    · rw [if_neg (by simp), sm_congr (g := fun _ => 0) (fun c _ => by
        unfold e3; rw [hb]; simp), sm_0]
    · have h1 : ab b (B a &&& B b) < 2 ^ n := Nat.lt_of_le_of_lt Nat.and_le_left (and_2n (hw.2.1 a))
      rw [if_pos rfl, bc_n hw h1]
      refine sm_congr (fun c _ => ?_)
      rw [ab_tb (and_lt (wf_2048 hw a)), Nat.testBit_and]
      unfold e3
      rw [hb, Bool.true_and]
      by_cases hbc : b < c
      · simp [hbc]
      · simp [hbc]
  · rw [if_neg hab, if_neg hab]
theorem tm_tr (hw : wf n B) : tm n B = tr n B := by
  have h1 : ∀ h, th2 n B h = 2 * sm (fun a => sm (fun c => e3 B h a c) a) n := fun h => by
    rw [th2_e3 hw, sm_sym (f := fun a c => e3 B h a c) (fun a c => e3_2 hw h a c) (fun a => by rw [e3_1 hw, e3_2 hw]; exact e3_d hw a h)]
  have h2 : sm (fun h => th2 n B h) n = 6 * t3 (e3 B) n := by
    rw [← sm_sym3 (e3_1 hw) (e3_2 hw) (e3_d hw)]
    exact sm_congr (fun h _ => th2_e3 hw h)
  have h3 : sm (fun h => th2 n B h) n = 2 * sm (fun h => th2 n B h / 2) n := by
    rw [← sm_mulc]
    exact sm_congr (fun h _ => by have := h1 h; omega)
  unfold tm
  rw [tr_t3 hw]
  omega
/-! the k-th three -/
def g2 (B : Nat → Nat) (n a b : Nat) : Nat := sm (fun c => if b < c then e3 B a b c else 0) n
def g1 (B : Nat → Nat) (n a : Nat) : Nat := sm (fun b => if a < b then g2 B n a b else 0) n
def p3 (B : Nat → Nat) (k : Int32) (a b z c : Nat) : Option Int32 := if b < c ∧ e3 B a b c = 1 ∧ nI (z + sm (fun c => if b < c then e3 B a b c else 0) c) = k then some (nI (10000 * a + 100 * b + c)) else none
def p2 (B : Nat → Nat) (n : Nat) (k : Int32) (a z b : Nat) : Option Int32 := if a < b then fo (p3 B k a b (z + sm (fun b => if a < b then g2 B n a b else 0) b)) n else none
def p1 (B : Nat → Nat) (n : Nat) (k : Int32) (a : Nat) : Option Int32 := fo (p2 B n k a (sm (fun a => g1 B n a) a)) n
theorem i_sub0 (k x : Int32) : k - x = 0 ↔ x = k := by
  constructor
  · intro h; grind
  · intro h; grind
theorem i_subS (k : Int32) (c : Nat) : k - nI c + -1 = k - nI (c + 1) := by
  have h : nI (c + 1) = nI c + 1 := (nI_add (a := c) (b := 1)).symm
  rw [h]
  grind
theorem g2_le (a b m : Nat) : sm (fun c => if b < c then e3 B a b c else 0) m ≤ 1 * m := sm_le (fun c => by
  split
  · exact e3_le _ _ _
  · omega) m
theorem e_3in (hm : mo σ n B) {k : Int32} {a b : Nat} (ha : a < n) (hb : b < n) (z : Nat) : f_80_41 tT σ 0 k (nI a) (nI b) (nI z) (nI (b + 1)) = some (match fo (p3 B k a b z) n with | none => .inl (nI (z + g2 B n a b), nI (b + 1)) | some r => .inr (.inr (r, σ))) := by
  obtain ⟨hR, hw, e1, hnb⟩ := id hm
  have hn := hw.1
  have hBa := wf_2048 hw a
  have hBb := wf_2048 hw b
  have := lp_fo (F := fun s : Int32 × Int32 => F_80_41 tT σ 0 k (nI a) (nI b) s.1 s.2) (I := fun j => (nI (z + sm (fun c => if b < c then e3 B a b c else 0) j), nI j)) (fun c => (p3 B k a b z c).map (fun r => (.inr (.inr (r, σ)) : (Int32 × Int32) ⊕ ((Int32 × Int32) ⊕ (Int32 × px_M))))) (.inl (nI (z + g2 B n a b), nI (b + 1))) n (b + 1) (fun i hi => by unfold p3; rw [if_neg (by omega)]; rfl) (fun i hi1 hi => by
    have hbi : b < i := by omega
    unfold p3
    simp only [sm, if_pos hbi]
    simp (disch := omega) only [F_80_41, f_80_66, f_80_80, f_80_98, f_80_121, la_0, la_1, la_2, la_3, la_4, la_15, la_16, la_17, la_18, la_19, la_20, la_23, la_24, la_25, la_26, la_27, la_28, la_31, la_35, la_36, la_37, rm_0_1 hR, rm_0_2 hR, rm_0_3 hR, rm_0_4 hR, rm_0_15 hR, rm_0_16 hR, rm_0_17 hR, rm_0_18 hR, rm_0_19 hR, rm_0_20 hR, rm_0_23 hR, rm_0_24 hR, rm_0_25 hR, rm_0_26 hR, rm_0_27 hR, rm_0_28 hR, rm_0_31 hR, rm_0_35 hR, rm_0_36 hR, rm_0_37 hR, gd_tt, oA_arr, px_obj_s, Option.bind_some, Option.map_some, Option.bind_none, eq_self, true_or, or_true, px_av_0, px_av_1, px_av_2, px_av_10, px_av_11, bn, wi_1, wi_2, wl_1, wl_21, wl_22, wr_1, wr_21, wr_22, Sum.elim_inl, Sum.elim_inr, ↓reduceIte, Nat.reduceLT, Nat.reduceLeDiff, not_false_eq_true, not_true_eq_false, Nat.reduceEqDiff, Nat.reduceAdd, reduceCtorEq, and_true, true_and, and_false, false_and, false_or, or_false, true_and, and_true, ni_divL, ni_subL, nI_add, pk_mul, nI_leI, nI_ltI, nI_eq, vp_in_eq, nI_clamp, ↓ni_tst, ni_tst2, fa_and, fa_or, ni_bit1, ni_1s, nI_l, mb_eq0, mb_ne0, mb_eq1, gd_tt, gd_t, bft, e1, e_near hm, e_isIn]
    rw [if_neg (by omega)]
    cases h1 : (B a).testBit b
    · simp [e3, h1]
    · cases h2 : (B a).testBit i
      · simp [e3, h1, h2]
      · cases h3 : (B b).testBit i
        · simp [e3, h1, h2, h3]
        · have he : e3 B a b i = 1 := by simp [e3, h1, h2, h3]
          simp only [he, hbi, true_and, Bool.true_eq_false, ↓reduceIte]
          by_cases hk : nI (z + sm (fun c => if b < c then e3 B a b c else 0) i) = k
          · simp [hk]
          · simp [hk, Nat.add_assoc]) (by
    simp (disch := omega) only [F_80_41, la_0, la_1, la_2, la_3, la_4, la_15, la_16, la_17, la_18, la_19, la_20, la_23, la_24, la_25, la_26, la_27, la_28, la_31, la_35, la_36, la_37, rm_0_1 hR, rm_0_2 hR, rm_0_3 hR, rm_0_4 hR, rm_0_15 hR, rm_0_16 hR, rm_0_17 hR, rm_0_18 hR, rm_0_19 hR, rm_0_20 hR, rm_0_23 hR, rm_0_24 hR, rm_0_25 hR, rm_0_26 hR, rm_0_27 hR, rm_0_28 hR, rm_0_31 hR, rm_0_35 hR, rm_0_36 hR, rm_0_37 hR, gd_tt, oA_arr, px_obj_s, Option.bind_some, Option.map_some, Option.bind_none, eq_self, true_or, or_true, px_av_0, px_av_1, px_av_2, px_av_10, px_av_11, bn, wi_1, wi_2, wl_1, wl_21, wl_22, wr_1, wr_21, wr_22, Sum.elim_inl, Sum.elim_inr, ↓reduceIte, Nat.reduceLT, Nat.reduceLeDiff, not_false_eq_true, not_true_eq_false, Nat.reduceEqDiff, Nat.reduceAdd, reduceCtorEq, and_true, true_and, and_false, false_and, false_or, or_false, true_and, and_true, ni_divL, ni_subL, nI_add, pk_mul, nI_leI, nI_ltI, nI_eq, vp_in_eq, nI_clamp, ↓ni_tst, ni_tst2, fa_and, fa_or, ni_bit1, ni_1s, nI_l, mb_eq0, mb_ne0, mb_eq1, gd_tt, gd_t, bft, e1]
    rw [if_pos (by omega)]
    rfl) (by omega)
  have h0 : sm (fun c => if b < c then e3 B a b c else 0) (b + 1) = 0 := sm_lo b _
  rw [h0, Nat.add_zero] at this
  unfold f_80_41
  rw [this]
  congr 1
  have hmap : ∀ m, fo (fun c => (p3 B k a b z c).map (fun r => (.inr (.inr (r, σ)) : (Int32 × Int32) ⊕ ((Int32 × Int32) ⊕ (Int32 × px_M))))) m = (fo (p3 B k a b z) m).map (fun r => .inr (.inr (r, σ))) := by
    intro m
    induction m with
    | zero => rfl
    | succ m ih =>
      simp only [fo, ih]
      cases fo (p3 B k a b z) m <;> rfl
  rw [hmap]
  cases fo (p3 B k a b z) n <;> rfl
theorem fo_map {β γ : Type} (p : Nat → Option β) (f : β → γ) : ∀ m, fo (fun c => (p c).map f) m = (fo p m).map f := by
  intro m
  induction m with
  | zero => rfl
  | succ m ih =>
    simp only [fo, ih]
    cases fo p m <;> rfl
theorem e_3mid (hm : mo σ n B) {k : Int32} {a : Nat} (ha : a < n) (z : Nat) : f_80_24 tT σ 0 k (nI a) (nI z) (nI (a + 1)) = some (match fo (p2 B n k a z) n with | none => .inl (nI (z + g1 B n a), nI (a + 1)) | some r => .inr (r, σ)) := by
  obtain ⟨hR, hw, e1, hnb⟩ := id hm
  have hn := hw.1
  have := lp_fo (F := fun s : Int32 × Int32 => F_80_24 tT σ 0 k (nI a) s.1 s.2) (I := fun j => (nI (z + sm (fun b => if a < b then g2 B n a b else 0) j), nI j)) (fun b => (p2 B n k a z b).map (fun r => (.inr (r, σ) : (Int32 × Int32) ⊕ (Int32 × px_M)))) (.inl (nI (z + g1 B n a), nI (a + 1))) n (a + 1) (fun i hi => by unfold p2; rw [if_neg (by omega)]; rfl) (fun i hi1 hi => by
    have hai : a < i := by omega
    unfold p2
    simp only [sm, if_pos hai]
    simp (disch := omega) only [F_80_24, la_0, la_1, la_2, la_3, la_4, la_15, la_16, la_17, la_18, la_19, la_20, la_23, la_24, la_25, la_26, la_27, la_28, la_31, la_35, la_36, la_37, rm_0_1 hR, rm_0_2 hR, rm_0_3 hR, rm_0_4 hR, rm_0_15 hR, rm_0_16 hR, rm_0_17 hR, rm_0_18 hR, rm_0_19 hR, rm_0_20 hR, rm_0_23 hR, rm_0_24 hR, rm_0_25 hR, rm_0_26 hR, rm_0_27 hR, rm_0_28 hR, rm_0_31 hR, rm_0_35 hR, rm_0_36 hR, rm_0_37 hR, gd_tt, oA_arr, px_obj_s, Option.bind_some, Option.map_some, Option.bind_none, eq_self, true_or, or_true, px_av_0, px_av_1, px_av_2, px_av_10, px_av_11, bn, wi_1, wi_2, wl_1, wl_21, wl_22, wr_1, wr_21, wr_22, Sum.elim_inl, Sum.elim_inr, ↓reduceIte, Nat.reduceLT, Nat.reduceLeDiff, not_false_eq_true, not_true_eq_false, Nat.reduceEqDiff, Nat.reduceAdd, reduceCtorEq, and_true, true_and, and_false, false_and, false_or, or_false, true_and, and_true, ni_divL, ni_subL, nI_add, pk_mul, nI_leI, nI_ltI, nI_eq, vp_in_eq, nI_clamp, ↓ni_tst, ni_tst2, fa_and, fa_or, ni_bit1, ni_1s, nI_l, mb_eq0, mb_ne0, mb_eq1, gd_tt, gd_t, bft, e1]
    rw [if_neg (by omega), e_3in hm ha hi]
    cases fo (p3 B k a i (z + sm (fun b => if a < b then g2 B n a b else 0) i)) n with
    | none => simp [Nat.add_assoc]
    | some r => simp) (by
    simp (disch := omega) only [F_80_24, la_0, la_1, la_2, la_3, la_4, la_15, la_16, la_17, la_18, la_19, la_20, la_23, la_24, la_25, la_26, la_27, la_28, la_31, la_35, la_36, la_37, rm_0_1 hR, rm_0_2 hR, rm_0_3 hR, rm_0_4 hR, rm_0_15 hR, rm_0_16 hR, rm_0_17 hR, rm_0_18 hR, rm_0_19 hR, rm_0_20 hR, rm_0_23 hR, rm_0_24 hR, rm_0_25 hR, rm_0_26 hR, rm_0_27 hR, rm_0_28 hR, rm_0_31 hR, rm_0_35 hR, rm_0_36 hR, rm_0_37 hR, gd_tt, oA_arr, px_obj_s, Option.bind_some, Option.map_some, Option.bind_none, eq_self, true_or, or_true, px_av_0, px_av_1, px_av_2, px_av_10, px_av_11, bn, wi_1, wi_2, wl_1, wl_21, wl_22, wr_1, wr_21, wr_22, Sum.elim_inl, Sum.elim_inr, ↓reduceIte, Nat.reduceLT, Nat.reduceLeDiff, not_false_eq_true, not_true_eq_false, Nat.reduceEqDiff, Nat.reduceAdd, reduceCtorEq, and_true, true_and, and_false, false_and, false_or, or_false, true_and, and_true, ni_divL, ni_subL, nI_add, pk_mul, nI_leI, nI_ltI, nI_eq, vp_in_eq, nI_clamp, ↓ni_tst, ni_tst2, fa_and, fa_or, ni_bit1, ni_1s, nI_l, mb_eq0, mb_ne0, mb_eq1, gd_tt, gd_t, bft, e1]
    rw [if_pos (by omega)]
    rfl) (by omega)
  have h0 : sm (fun b => if a < b then g2 B n a b else 0) (a + 1) = 0 := sm_lo a _
  rw [h0, Nat.add_zero] at this
  unfold f_80_24
  rw [this, fo_map]
  cases fo (p2 B n k a z) n <;> rfl
theorem e_3 (hm : mo σ n B) (k : Int32) : f_80_9 tT σ 0 k (nI 0) (nI 0) = some ((fo (p1 B n k) n).getD (if k = -1 then nI (sm (fun a => g1 B n a) n) else -1), σ) := by
  obtain ⟨hR, hw, e1, hnb⟩ := id hm
  have hn := hw.1
  have := lp_fo (F := fun s : Int32 × Int32 => F_80_9 tT σ 0 k s.1 s.2) (I := fun j => (nI (sm (fun a => g1 B n a) j), nI j)) (fun a => (p1 B n k a).map (fun r => ((r, σ) : Int32 × px_M))) (if k = -1 then nI (sm (fun a => g1 B n a) n) else -1, σ) n 0 (fun i hi => absurd hi (by omega)) (fun i hi1 hi => by
    unfold p1
    simp only [sm]
    simp (disch := omega) only [F_80_9, la_0, la_1, la_2, la_3, la_4, la_15, la_16, la_17, la_18, la_19, la_20, la_23, la_24, la_25, la_26, la_27, la_28, la_31, la_35, la_36, la_37, rm_0_1 hR, rm_0_2 hR, rm_0_3 hR, rm_0_4 hR, rm_0_15 hR, rm_0_16 hR, rm_0_17 hR, rm_0_18 hR, rm_0_19 hR, rm_0_20 hR, rm_0_23 hR, rm_0_24 hR, rm_0_25 hR, rm_0_26 hR, rm_0_27 hR, rm_0_28 hR, rm_0_31 hR, rm_0_35 hR, rm_0_36 hR, rm_0_37 hR, gd_tt, oA_arr, px_obj_s, Option.bind_some, Option.map_some, Option.bind_none, eq_self, true_or, or_true, px_av_0, px_av_1, px_av_2, px_av_10, px_av_11, bn, wi_1, wi_2, wl_1, wl_21, wl_22, wr_1, wr_21, wr_22, Sum.elim_inl, Sum.elim_inr, ↓reduceIte, Nat.reduceLT, Nat.reduceLeDiff, not_false_eq_true, not_true_eq_false, Nat.reduceEqDiff, Nat.reduceAdd, reduceCtorEq, and_true, true_and, and_false, false_and, false_or, or_false, true_and, and_true, ni_divL, ni_subL, nI_add, pk_mul, nI_leI, nI_ltI, nI_eq, vp_in_eq, nI_clamp, ↓ni_tst, ni_tst2, fa_and, fa_or, ni_bit1, ni_1s, nI_l, mb_eq0, mb_ne0, mb_eq1, gd_tt, gd_t, bft, e1]
    rw [if_neg (by omega), e_3mid hm hi]
    cases fo (p2 B n k i (sm (fun a => g1 B n a) i)) n with
    | none => simp
    | some r => simp) (by
    simp (disch := omega) only [F_80_9, la_0, la_1, la_2, la_3, la_4, la_15, la_16, la_17, la_18, la_19, la_20, la_23, la_24, la_25, la_26, la_27, la_28, la_31, la_35, la_36, la_37, rm_0_1 hR, rm_0_2 hR, rm_0_3 hR, rm_0_4 hR, rm_0_15 hR, rm_0_16 hR, rm_0_17 hR, rm_0_18 hR, rm_0_19 hR, rm_0_20 hR, rm_0_23 hR, rm_0_24 hR, rm_0_25 hR, rm_0_26 hR, rm_0_27 hR, rm_0_28 hR, rm_0_31 hR, rm_0_35 hR, rm_0_36 hR, rm_0_37 hR, gd_tt, oA_arr, px_obj_s, Option.bind_some, Option.map_some, Option.bind_none, eq_self, true_or, or_true, px_av_0, px_av_1, px_av_2, px_av_10, px_av_11, bn, wi_1, wi_2, wl_1, wl_21, wl_22, wr_1, wr_21, wr_22, Sum.elim_inl, Sum.elim_inr, ↓reduceIte, Nat.reduceLT, Nat.reduceLeDiff, not_false_eq_true, not_true_eq_false, Nat.reduceEqDiff, Nat.reduceAdd, reduceCtorEq, and_true, true_and, and_false, false_and, false_or, or_false, true_and, and_true, ni_divL, ni_subL, nI_add, pk_mul, nI_leI, nI_ltI, nI_eq, vp_in_eq, nI_clamp, ↓ni_tst, ni_tst2, fa_and, fa_or, ni_bit1, ni_1s, nI_l, mb_eq0, mb_ne0, mb_eq1, gd_tt, gd_t, bft, e1]
    rw [if_pos (by omega)]
    by_cases hk : k = -1
    · simp [hk]
    · simp [hk]) (by omega)
  unfold f_80_9
  rw [show ((nI 0, nI 0) : Int32 × Int32) = (nI (sm (fun a => g1 B n a) 0), nI 0) from rfl, this, fo_map]
  cases fo (p1 B n k) n <;> rfl
theorem c_3in (hc : ct σ t n B) {k : Int32} {a b : Nat} (ha : a < n) (hb : b < n) (z : Nat) {th : Nat} (hth : th < 2048) (hthe : ∀ c, c < n → b < c → (th.testBit c).toNat = e3 B a b c) : f_11024_55 tT σ t (nI a) (nI b) (nI th) (k - nI z) (nI (b + 1)) = some (match fo (p3 B k a b z) n with | none => .inl (k - nI (z + g2 B n a b), nI (b + 1)) | some r => .inr (.inr r)) := by
  obtain ⟨l1, l2, hr, hw, h1, hnb⟩ := hc
  have hn := hw.1
  have := lp_fo (F := fun s : Int32 × Int32 => F_11024_55 tT σ t (nI a) (nI b) (nI th) s.1 s.2) (I := fun j => (k - nI (z + sm (fun c => if b < c then e3 B a b c else 0) j), nI j)) (fun c => (p3 B k a b z c).map (fun r => (.inr (.inr r) : (Int32 × Int32) ⊕ ((Int32 × Int32) ⊕ Int32)))) (.inl (k - nI (z + g2 B n a b), nI (b + 1))) n (b + 1) (fun i hi => by unfold p3; rw [if_neg (by omega)]; rfl) (fun i hi1 hi => by
    have hbi : b < i := by omega
    have he := hthe i hi hbi
    unfold p3
    simp only [sm, if_pos hbi]
    simp (disch := omega) only [F_11024_55, l1, h1, gd_tt, oA_arr, px_obj_s, Option.bind_some, Option.map_some, Option.bind_none, eq_self, true_or, or_true, px_av_0, px_av_1, px_av_2, px_av_10, px_av_11, bn, wi_1, wi_2, wl_1, wl_21, wl_22, wr_1, wr_21, wr_22, Sum.elim_inl, Sum.elim_inr, ↓reduceIte, Nat.reduceLT, Nat.reduceLeDiff, not_false_eq_true, not_true_eq_false, Nat.reduceEqDiff, Nat.reduceAdd, reduceCtorEq, and_true, true_and, and_false, false_and, false_or, or_false, true_and, and_true, ni_divL, ni_subL, nI_add, pk_mul, nI_leI, nI_ltI, nI_eq, vp_in_eq, nI_clamp, ↓ni_tst, ni_tst2, fa_and, fa_or, ni_bit1, ni_1s, nI_l, mb_eq0, mb_ne0, mb_eq1, gd_tt, gd_t, bft]
    rw [if_neg (by omega)]
    cases h3 : th.testBit i
    · rw [h3] at he
      simp [← he]
    · rw [h3] at he
      have he1 : e3 B a b i = 1 := he.symm
      simp only [he1, hbi, true_and, Bool.true_eq_false, ↓reduceIte]
      by_cases hk : nI (z + sm (fun c => if b < c then e3 B a b c else 0) i) = k
      · have h0 : k - nI (z + sm (fun c => if b < c then e3 B a b c else 0) i) = nI 0 := (i_sub0 _ _).mpr hk
        simp only [h0, ↓reduceIte]
        simp only [hk, ↓reduceIte, Option.map_some]
      · have h0 : ¬ k - nI (z + sm (fun c => if b < c then e3 B a b c else 0) i) = nI 0 := fun q => hk ((i_sub0 _ _).mp q)
        simp only [hk, h0, ↓reduceIte, Option.map_none]
        rw [i_subS, Nat.add_assoc]) (by
    simp (disch := omega) only [F_11024_55, l1, h1, gd_tt, oA_arr, px_obj_s, Option.bind_some, Option.map_some, Option.bind_none, eq_self, true_or, or_true, px_av_0, px_av_1, px_av_2, px_av_10, px_av_11, bn, wi_1, wi_2, wl_1, wl_21, wl_22, wr_1, wr_21, wr_22, Sum.elim_inl, Sum.elim_inr, ↓reduceIte, Nat.reduceLT, Nat.reduceLeDiff, not_false_eq_true, not_true_eq_false, Nat.reduceEqDiff, Nat.reduceAdd, reduceCtorEq, and_true, true_and, and_false, false_and, false_or, or_false, true_and, and_true, ni_divL, ni_subL, nI_add, pk_mul, nI_leI, nI_ltI, nI_eq, vp_in_eq, nI_clamp, ↓ni_tst, ni_tst2, fa_and, fa_or, ni_bit1, ni_1s, nI_l, mb_eq0, mb_ne0, mb_eq1, gd_tt, gd_t, bft]
    rw [if_pos (by omega)]
    rfl) (by omega)
  have h0 : sm (fun c => if b < c then e3 B a b c else 0) (b + 1) = 0 := sm_lo b _
  rw [h0, Nat.add_zero] at this
  unfold f_11024_55
  rw [this, fo_map]
  cases fo (p3 B k a b z) n <;> rfl
theorem c_3mid (hc : ct σ t n B) {k : Int32} {a : Nat} (ha : a < n) (z : Nat) : f_11024_17 tT σ t (nI a) (k - nI z) (nI (a + 1)) = some (match fo (p2 B n k a z) n with | none => .inl (k - nI (z + g1 B n a), nI (a + 1)) | some r => .inr r) := by
  have hin := @c_3in σ t n B hc k a
  have hL := @c_linked σ t n B hc
  have hA := @c_commonAbove σ t n B hc
  obtain ⟨l1, l2, hr, hw, h1, hnb⟩ := hc
  have hn := hw.1
  have := lp_fo (F := fun s : Int32 × Int32 => F_11024_17 tT σ t (nI a) s.1 s.2) (I := fun j => (k - nI (z + sm (fun b => if a < b then g2 B n a b else 0) j), nI j)) (fun b => (p2 B n k a z b).map (fun r => (.inr r : (Int32 × Int32) ⊕ Int32))) (.inl (k - nI (z + g1 B n a), nI (a + 1))) n (a + 1) (fun i hi => by unfold p2; rw [if_neg (by omega)]; rfl) (fun i hi1 hi => by
    have hai : a < i := by omega
    unfold p2
    simp only [sm, if_pos hai]
    simp (disch := omega) only [F_11024_17, f_11024_49, l1, h1, gd_tt, oA_arr, px_obj_s, Option.bind_some, Option.map_some, Option.bind_none, eq_self, true_or, or_true, px_av_0, px_av_1, px_av_2, px_av_10, px_av_11, bn, wi_1, wi_2, wl_1, wl_21, wl_22, wr_1, wr_21, wr_22, Sum.elim_inl, Sum.elim_inr, ↓reduceIte, Nat.reduceLT, Nat.reduceLeDiff, not_false_eq_true, not_true_eq_false, Nat.reduceEqDiff, Nat.reduceAdd, reduceCtorEq, and_true, true_and, and_false, false_and, false_or, or_false, true_and, and_true, ni_divL, ni_subL, nI_add, pk_mul, nI_leI, nI_ltI, nI_eq, vp_in_eq, nI_clamp, ↓ni_tst, ni_tst2, fa_and, fa_or, ni_bit1, ni_1s, nI_l, mb_eq0, mb_ne0, mb_eq1, gd_tt, gd_t, bft, hL, hA]
    rw [if_neg (by omega)]
    cases h2 : (B a).testBit i
    · have := hin (b := i) ha hi (z + sm (fun b => if a < b then g2 B n a b else 0) i) (th := 0) (by omega) (fun c _ _ => by simp [e3, h2])
      simp only [↓reduceIte]
      rw [this]
      cases fo (p3 B k a i (z + sm (fun b => if a < b then g2 B n a b else 0) i)) n with
      | none => simp [Nat.add_assoc]
      | some r => simp
    · have := hin (b := i) ha hi (z + sm (fun b => if a < b then g2 B n a b else 0) i) (th := ab i (B a &&& B i)) (ab_lt (and_lt (wf_2048 hw a))) (fun c _ hic => by
        rw [ab_tb (and_lt (wf_2048 hw a)), Nat.testBit_and]
        simp [e3, h2, hic])
      simp only [Bool.true_eq_false, ↓reduceIte]
      rw [this]
      cases fo (p3 B k a i (z + sm (fun b => if a < b then g2 B n a b else 0) i)) n with
      | none => simp [Nat.add_assoc]
      | some r => simp) (by
    simp (disch := omega) only [F_11024_17, l1, h1, gd_tt, oA_arr, px_obj_s, Option.bind_some, Option.map_some, Option.bind_none, eq_self, true_or, or_true, px_av_0, px_av_1, px_av_2, px_av_10, px_av_11, bn, wi_1, wi_2, wl_1, wl_21, wl_22, wr_1, wr_21, wr_22, Sum.elim_inl, Sum.elim_inr, ↓reduceIte, Nat.reduceLT, Nat.reduceLeDiff, not_false_eq_true, not_true_eq_false, Nat.reduceEqDiff, Nat.reduceAdd, reduceCtorEq, and_true, true_and, and_false, false_and, false_or, or_false, true_and, and_true, ni_divL, ni_subL, nI_add, pk_mul, nI_leI, nI_ltI, nI_eq, vp_in_eq, nI_clamp, ↓ni_tst, ni_tst2, fa_and, fa_or, ni_bit1, ni_1s, nI_l, mb_eq0, mb_ne0, mb_eq1, gd_tt, gd_t, bft]
    rw [if_pos (by omega)]
    rfl) (by omega)
  have h0 : sm (fun b => if a < b then g2 B n a b else 0) (a + 1) = 0 := sm_lo a _
  rw [h0, Nat.add_zero] at this
  unfold f_11024_17
  rw [this, fo_map]
  cases fo (p2 B n k a z) n <;> rfl
theorem c_threeAt (hc : ct σ t n B) (k : Int32) : f_11024 tT σ t k = some ((fo (p1 B n k) n).getD (-1)) := by
  have hmid := @c_3mid σ t n B hc k
  obtain ⟨l1, l2, hr, hw, h1, hnb⟩ := hc
  have hn := hw.1
  have := lp_fo (F := fun s : Int32 × Int32 => F_11024_4 tT σ t s.1 s.2) (I := fun j => (k - nI (sm (fun a => g1 B n a) j), nI j)) (p1 B n k) (-1) n 0 (fun i hi => absurd hi (by omega)) (fun i hi1 hi => by
    unfold p1
    simp only [sm]
    simp (disch := omega) only [F_11024_4, l1, h1, gd_tt, oA_arr, px_obj_s, Option.bind_some, Option.map_some, Option.bind_none, eq_self, true_or, or_true, px_av_0, px_av_1, px_av_2, px_av_10, px_av_11, bn, wi_1, wi_2, wl_1, wl_21, wl_22, wr_1, wr_21, wr_22, Sum.elim_inl, Sum.elim_inr, ↓reduceIte, Nat.reduceLT, Nat.reduceLeDiff, not_false_eq_true, not_true_eq_false, Nat.reduceEqDiff, Nat.reduceAdd, reduceCtorEq, and_true, true_and, and_false, false_and, false_or, or_false, true_and, and_true, ni_divL, ni_subL, nI_add, pk_mul, nI_leI, nI_ltI, nI_eq, vp_in_eq, nI_clamp, ↓ni_tst, ni_tst2, fa_and, fa_or, ni_bit1, ni_1s, nI_l, mb_eq0, mb_ne0, mb_eq1, gd_tt, gd_t, bft, hmid]
    rw [if_neg (by omega)]
    cases fo (p2 B n k i (sm (fun a => g1 B n a) i)) n with
    | none => simp
    | some r => simp) (by
    simp (disch := omega) only [F_11024_4, l1, h1, gd_tt, oA_arr, px_obj_s, Option.bind_some, Option.map_some, Option.bind_none, eq_self, true_or, or_true, px_av_0, px_av_1, px_av_2, px_av_10, px_av_11, bn, wi_1, wi_2, wl_1, wl_21, wl_22, wr_1, wr_21, wr_22, Sum.elim_inl, Sum.elim_inr, ↓reduceIte, Nat.reduceLT, Nat.reduceLeDiff, not_false_eq_true, not_true_eq_false, Nat.reduceEqDiff, Nat.reduceAdd, reduceCtorEq, and_true, true_and, and_false, false_and, false_or, or_false, true_and, and_true, ni_divL, ni_subL, nI_add, pk_mul, nI_leI, nI_ltI, nI_eq, vp_in_eq, nI_clamp, ↓ni_tst, ni_tst2, fa_and, fa_or, ni_bit1, ni_1s, nI_l, mb_eq0, mb_ne0, mb_eq1, gd_tt, gd_t, bft]
    rw [if_pos (by omega)]) (by omega)
  unfold f_11024 f_11024_4
  have hk : k = k - nI (sm (fun a => g1 B n a) 0) := by
    show k = k - 0
    grind
  conv => lhs; rw [hk]
  exact this
theorem a_three (hc : cl σ n B) (k : Int32) : agQ (f_12022 tT σ 100 k) (fun τ => f_80 tT τ 0 k) n B := by
  obtain ⟨hR, ht⟩ := hc
  have hw := ht.2.2.2.1
  have hn := hw.1
  refine ⟨(fo (p1 B n k) n).getD (if k = -1 then nI (sm (fun a => g1 B n a) n) else -1), ?_, fun τ hm => ⟨px_wi τ 0 0 (nI 0), ?_, fr_thr (fr_rf _ _)⟩⟩
  · by_cases hk : k = -1
    · subst hk
      have hg : sm (fun a => g1 B n a) n = tr n B := by
        rw [tr_t3 hw, ← sm_up3]
        rfl
      have hnone : fo (p1 B n (-1)) n = none := fo_none (fun a ha => fo_none (fun b hb => by
        unfold p2
        split
        · refine fo_none (fun c hc => ?_)
          unfold p3
          rw [if_neg]
          rintro ⟨q1, q2, q3⟩
          revert q3
          apply nI_m1
          have h1 : ∀ m, sm (fun a => g1 B n a) m ≤ 121 * m := sm_le (fun a => by
            have := sm_le (f := fun b => if a < b then g2 B n a b else 0) (c := 11) (fun b => by
              split
              · have := g2_le (B := B) a b n; unfold g2; omega
              · omega) n
            unfold g1; omega)
          have h2 : ∀ m, sm (fun b => if a < b then g2 B n a b else 0) m ≤ 11 * m := sm_le (fun b => by
              split
              · have := g2_le (B := B) a b n; unfold g2; omega
              · omega)
          have h3 := g2_le (B := B) a b c
          have := h1 a
          have := h2 b
          omega
        · rfl))
      rw [hnone, hg]
      simp only [f_12022, la_100, la_102, la_103, la_104, la_105, la_110, la_111, la_112, la_113, la_114, la_115, la_116, la_117, la_120, la_121, la_122, la_123, la_124, la_125, la_126, la_127, la_130, la_131, la_132, la_133, la_134, la_135, la_136, la_137, la_140, la_141, la_142, la_143, la_144, la_145, la_146, la_147, la_150, la_151, la_152, la_153, la_160, la_161, la_170, la_171, la_172, la_173, la_174, la_180, la_181, la_182, la_183, la_184, la_185, la_186, la_190, la_191, la_192, la_193, la_194, la_195, la_200, la_201, la_202, la_210, la_211, la_212, la_213, la_214, la_215, la_216, la_217, la_218, la_219, la_220, la_221, la_222, la_223, la_224, la_225, la_226, la_230, la_231, la_232, la_233, la_234, la_240, la_241, rc_100_0 hR, rc_100_1 hR, rc_100_2 hR, rc_100_3 hR, rc_100_4 hR, rc_100_5 hR, rc_100_6 hR, rc_100_7 hR, rc_100_8 hR, rc_100_9 hR, rc_100_10 hR, rc_100_11 hR, rc_100_12 hR, rc_100_13 hR, rc_100_14 hR, rc_100_15 hR, rc_111_1 hR, rc_113_1 hR, rc_113_2 hR, rc_113_3 hR, rc_110_0 hR, rc_110_1 hR, rc_110_5 hR, rc_121_1 hR, rc_123_1 hR, rc_123_2 hR, rc_123_3 hR, rc_120_0 hR, rc_120_1 hR, rc_120_5 hR, rc_131_1 hR, rc_133_1 hR, rc_133_2 hR, rc_133_3 hR, rc_130_0 hR, rc_130_1 hR, rc_130_5 hR, rc_141_1 hR, rc_143_1 hR, rc_143_2 hR, rc_143_3 hR, rc_140_0 hR, rc_140_1 hR, rc_140_5 hR, rc_150_3 hR, rc_150_4 hR, rc_150_5 hR, rc_150_6 hR, rc_160_0 hR, rc_173_1 hR, rc_170_0 hR, rc_170_1 hR, rc_181_0 hR, rc_185_1 hR, rc_180_0 hR, rc_180_1 hR, rc_180_2 hR, rc_192_1 hR, rc_194_1 hR, rc_190_0 hR, rc_201_1 hR, rc_200_0 hR, rc_214_1 hR, rc_211_0 hR, rc_211_1 hR, rc_216_1 hR, rc_221_1 hR, rc_221_2 hR, rc_221_3 hR, rc_225_1 hR, rc_210_0 hR, rc_210_1 hR, rc_210_2 hR, rc_210_3 hR, rc_210_4 hR, rc_231_1 hR, rc_233_1 hR, rc_230_0 hR, rc_230_1 hR, rc_240_1 hR, gd_tt, oA_arr, px_obj_s, Option.bind_some, Option.map_some, Option.bind_none, eq_self, true_or, or_true, px_av_0, px_av_1, px_av_2, px_av_10, px_av_11, bn, wi_1, wi_2, wl_1, wl_21, wl_22, wr_1, wr_21, wr_22, Sum.elim_inl, Sum.elim_inr, ↓reduceIte, Nat.reduceLT, Nat.reduceLeDiff, not_false_eq_true, not_true_eq_false, Nat.reduceEqDiff, Nat.reduceAdd, reduceCtorEq, and_true, true_and, and_false, false_and, false_or, or_false, c_threes ht]
      rfl
    · simp only [f_12022, hk, la_100, la_102, la_103, la_104, la_105, la_110, la_111, la_112, la_113, la_114, la_115, la_116, la_117, la_120, la_121, la_122, la_123, la_124, la_125, la_126, la_127, la_130, la_131, la_132, la_133, la_134, la_135, la_136, la_137, la_140, la_141, la_142, la_143, la_144, la_145, la_146, la_147, la_150, la_151, la_152, la_153, la_160, la_161, la_170, la_171, la_172, la_173, la_174, la_180, la_181, la_182, la_183, la_184, la_185, la_186, la_190, la_191, la_192, la_193, la_194, la_195, la_200, la_201, la_202, la_210, la_211, la_212, la_213, la_214, la_215, la_216, la_217, la_218, la_219, la_220, la_221, la_222, la_223, la_224, la_225, la_226, la_230, la_231, la_232, la_233, la_234, la_240, la_241, rc_100_0 hR, rc_100_1 hR, rc_100_2 hR, rc_100_3 hR, rc_100_4 hR, rc_100_5 hR, rc_100_6 hR, rc_100_7 hR, rc_100_8 hR, rc_100_9 hR, rc_100_10 hR, rc_100_11 hR, rc_100_12 hR, rc_100_13 hR, rc_100_14 hR, rc_100_15 hR, rc_111_1 hR, rc_113_1 hR, rc_113_2 hR, rc_113_3 hR, rc_110_0 hR, rc_110_1 hR, rc_110_5 hR, rc_121_1 hR, rc_123_1 hR, rc_123_2 hR, rc_123_3 hR, rc_120_0 hR, rc_120_1 hR, rc_120_5 hR, rc_131_1 hR, rc_133_1 hR, rc_133_2 hR, rc_133_3 hR, rc_130_0 hR, rc_130_1 hR, rc_130_5 hR, rc_141_1 hR, rc_143_1 hR, rc_143_2 hR, rc_143_3 hR, rc_140_0 hR, rc_140_1 hR, rc_140_5 hR, rc_150_3 hR, rc_150_4 hR, rc_150_5 hR, rc_150_6 hR, rc_160_0 hR, rc_173_1 hR, rc_170_0 hR, rc_170_1 hR, rc_181_0 hR, rc_185_1 hR, rc_180_0 hR, rc_180_1 hR, rc_180_2 hR, rc_192_1 hR, rc_194_1 hR, rc_190_0 hR, rc_201_1 hR, rc_200_0 hR, rc_214_1 hR, rc_211_0 hR, rc_211_1 hR, rc_216_1 hR, rc_221_1 hR, rc_221_2 hR, rc_221_3 hR, rc_225_1 hR, rc_210_0 hR, rc_210_1 hR, rc_210_2 hR, rc_210_3 hR, rc_210_4 hR, rc_231_1 hR, rc_233_1 hR, rc_230_0 hR, rc_230_1 hR, rc_240_1 hR, gd_tt, oA_arr, px_obj_s, Option.bind_some, Option.map_some, Option.bind_none, eq_self, true_or, or_true, px_av_0, px_av_1, px_av_2, px_av_10, px_av_11, bn, wi_1, wi_2, wl_1, wl_21, wl_22, wr_1, wr_21, wr_22, Sum.elim_inl, Sum.elim_inr, ↓reduceIte, Nat.reduceLT, Nat.reduceLeDiff, not_false_eq_true, not_true_eq_false, Nat.reduceEqDiff, Nat.reduceAdd, reduceCtorEq, and_true, true_and, and_false, false_and, false_or, or_false, c_threeAt ht]
  · simp only [f_80, la_0, gd_tt, oA_arr, px_obj_s, Option.bind_some, Option.map_some, Option.bind_none, eq_self, true_or, or_true, px_av_0, px_av_1, px_av_2, px_av_10, px_av_11, bn, wi_1, wi_2, wl_1, wl_21, wl_22, wr_1, wr_21, wr_22, Sum.elim_inl, Sum.elim_inr, ↓reduceIte, Nat.reduceLT, Nat.reduceLeDiff, not_false_eq_true, not_true_eq_false, Nat.reduceEqDiff, Nat.reduceAdd, reduceCtorEq, and_true, true_and, and_false, false_and, false_or, or_false, e_3 (mo_thr hm)]
end
