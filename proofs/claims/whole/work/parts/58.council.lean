/-! rules: the class's council -/
/-- the class's piece for a code -/
def ctr (c : Nat) : Nat := if c < 1004 then c else if c ≤ 1007 then c + 1 else if c = 1100 then 1004 else if c ≤ 3005 then c - 1000 else if c = 3008 then 2006 else c - 999
/-- the word w: its code; its slot for a house -/
def wcd (w : Nat) : Nat := if w < 4 then 1000 + w else if w = 4 then 1100 else 999 + w
def wsl (w h : Nat) : Nat := w * 11 + (if w < 4 then h else 0)
def wbt (c : Nat) : Nat := if 1000 ≤ ctr c ∧ ctr c < 2000 then 2 ^ (ctr c - 1000) else 0
def uset (D : Nat → Nat) : Nat → Nat
  | 0 => 0
  | m + 1 => uset D m ||| wbt (D m)
theorem uset_tb (D : Nat → Nat) {m k : Nat} (hk : k < m) (h1 : 1000 ≤ ctr (D k)) (h2 : ctr (D k) < 2000) : (uset D m).testBit (ctr (D k) - 1000) = true := by
  induction m with
  | zero => omega
  | succ m ih =>
    show (uset D m ||| wbt (D m)).testBit _ = true
    rw [Nat.testBit_or]
    by_cases q : k = m
    · subst q
      unfold wbt
      rw [if_pos ⟨h1, h2⟩, Nat.testBit_two_pow_self, Bool.or_true]
    · rw [ih (by omega), Bool.true_or]
theorem ctr_w {c : Nat} (hc : wrd c) : ctr c < 1009 := by
  have hq : c < 1004 ∨ c = 1004 ∨ c = 1005 ∨ c = 1006 ∨ c = 1007 ∨ c = 1100 := by unfold wrd at hc; omega
  rcases hq with h | rfl | rfl | rfl | rfl | rfl
  · unfold ctr; rw [if_pos h]; omega
  all_goals decide
theorem wv_0 (n : Nat) (B : Nat → Nat) (h : Nat) : wv n B h 1000 = bc 11 (B h) := by unfold wv; rw [if_pos rfl]
theorem wv_1 (n : Nat) (B : Nat → Nat) (h : Nat) : wv n B h 1001 = th2 n B h / 2 := by unfold wv; rw [if_neg (by decide), if_pos rfl]
theorem wv_2 (n : Nat) (B : Nat → Nat) (h : Nat) : wv n B h 1002 = fo1 n B h := by unfold wv; rw [if_neg (by decide), if_neg (by decide), if_pos rfl]
theorem wv_3 (n : Nat) (B : Nat → Nat) (h : Nat) : wv n B h 1003 = ec n B h := by unfold wv; rw [if_neg (by decide), if_neg (by decide), if_neg (by decide), if_pos rfl]
theorem wv_4 (n : Nat) (B : Nat → Nat) (h : Nat) : wv n B h 1004 = dm n B := by unfold wv; rw [if_neg (by decide), if_neg (by decide), if_neg (by decide), if_neg (by decide), if_pos rfl]
theorem wv_5 (n : Nat) (B : Nat → Nat) (h : Nat) : wv n B h 1005 = mgs n B := by unfold wv; rw [if_neg (by decide), if_neg (by decide), if_neg (by decide), if_neg (by decide), if_neg (by decide), if_pos rfl]
theorem wv_6 (n : Nat) (B : Nat → Nat) (h : Nat) : wv n B h 1006 = chi n B (2 ^ n - 1) := by unfold wv; rw [if_neg (by decide), if_neg (by decide), if_neg (by decide), if_neg (by decide), if_neg (by decide), if_neg (by decide), if_pos rfl]
theorem wv_7 (n : Nat) (B : Nat → Nat) (h : Nat) : wv n B h 1007 = if hv n B = -1 then 0 else 1 := by unfold wv; rw [if_neg (by decide), if_neg (by decide), if_neg (by decide), if_neg (by decide), if_neg (by decide), if_neg (by decide), if_neg (by decide), if_pos rfl]
theorem wv_h (n : Nat) (B : Nat → Nat) (h : Nat) : wv n B h 1100 = n := by unfold wv; rw [if_neg (by decide), if_neg (by decide), if_neg (by decide), if_neg (by decide), if_neg (by decide), if_neg (by decide), if_neg (by decide), if_neg (by decide), if_pos rfl]
theorem wi_n {σ : px_M} {a b c j : Nat} {v : Int32} (h : c ≠ a) : (px_wi σ a b v).1 c j = σ.1 c j := by rw [wi_1, px_up_row h]
theorem ctr_o {c : Nat} (h1 : 3000 ≤ c) (h2 : c ≤ 3008) : 2000 ≤ ctr c ∧ ctr c ≤ 2008 := by
  unfold ctr
  rw [if_neg (by omega), if_neg (by omega), if_neg (by omega)]
  split
  · omega
  · split <;> omega
theorem wbt_lt {c : Nat} (hc : wrd c ∨ (3000 ≤ c ∧ c ≤ 3008)) : wbt c < 512 := by
  unfold wbt
  split
  · next h =>
    rcases hc with hc | hc
    · have := ctr_w hc
      exact Nat.lt_of_lt_of_le (Nat.pow_lt_pow_right (by omega) (show ctr c - 1000 < 9 by omega)) (by decide)
    · have := ctr_o hc.1 hc.2; omega
  · decide
theorem or_512 {a b : Nat} (ha : a < 512) (hb : b < 512) : a ||| b < 512 := Nat.or_lt_two_pow (n := 9) ha hb
theorem tS_c {c : Nat} {ts us : List Bool} (h : tS c ts us) : wrd c ∨ (3000 ≤ c ∧ c ≤ 3008) := by
  rcases h with ⟨w, -⟩ | ⟨w, -⟩ | ⟨w1, w2, -⟩
  · exact Or.inl w
  · exact Or.inr (by omega)
  · exact Or.inr (by omega)
theorem uset_lt {D : Nat → Nat} : ∀ {m : Nat} {ts : List Bool}, tR D m ts → uset D m < 512 := by
  intro m
  induction m with
  | zero => intro ts _; exact (by decide : 0 < 512)
  | succ m ih => intro ts q; obtain ⟨us, q1, q2⟩ := q; exact or_512 (ih q1) (wbt_lt (tS_c q2))
section
variable {σ τ : px_M} {u R n : Nat} {B : Nat → Nat}
def SNw (l j : Nat) : Bool := (l == 210 && j == 8) || SP 211 l j || l == 220
theorem SN_220 (j : Nat) : SNw 220 j = true := by simp [SNw]
theorem SN_SP : ∀ l j, SNw l j = false → SP 211 l j = false := fun l j h => by
  simp only [SNw, Bool.or_eq_false_iff] at h; exact h.1.2
/-- what is known of words: k those found -/
def knw (σ : px_M) (n : Nat) (B : Nat → Nat) (P : Nat → Prop) : Prop := ∀ w, w < 9 → P w → ∀ h, h < n → σ.1 220 (wsl w h) = nI (wv n B h (wcd w))
/-- a town that the council can askd -/
def ok4 (u : Nat) : Prop := u ≠ 212 ∧ u ≠ 211 ∧ u + 1 ≠ 212 ∧ u + 1 ≠ 211 ∧ u ≠ 210 ∧ u + 1 ≠ 210 ∧ u ≠ 220 ∧ u + 1 ≠ 220 ∧ u ≠ 218 ∧ u + 1 ≠ 218 ∧ u ≠ 219 ∧ u + 1 ≠ 219
theorem ct_SN (hu : ok4 u) (h : fr SNw σ τ) (hc : ct σ u n B) : ct τ u n B := by
  obtain ⟨h1, h2, h3, h4, h5, h6, h7, h8, -⟩ := hu
  exact ct_fr h (fun j => by simp [SNw, SP, h1, h2, h5, h7]) (fun j => by simp [SNw, SP]; omega) hc
theorem c_ofHouse (hk : σ.2.2 210 7 = some u) (hc : ct σ u n B) {w h : Nat} (hw4 : w < 4) (hh : h < n) : f_2011 tT σ 210 (nI (1000 + w)) (nI h) = some (nI (wv n B h (1000 + w))) := by
  have hq : w = 0 ∨ w = 1 ∨ w = 2 ∨ w = 3 := by omega
  rcases hq with rfl | rfl | rfl | rfl
  · show f_2011 tT σ 210 (nI 1000) (nI h) = some (nI (wv n B h 1000))
    rw [wv_0]
    unfold f_2011
    simp only [la_210, hk, hc.1, gd_tt, oA_arr, px_obj_s, Option.bind_some, Option.map_some, Option.bind_none, eq_self, true_or, or_true, px_av_0, px_av_1, px_av_2, px_av_10, px_av_11, bn, wi_1, wi_2, wl_1, wl_21, wl_22, wr_1, wr_21, wr_22, Sum.elim_inl, Sum.elim_inr, ↓reduceIte, Nat.reduceLT, Nat.reduceLeDiff, not_false_eq_true, not_true_eq_false, Nat.reduceEqDiff, Nat.reduceAdd, reduceCtorEq, and_true, true_and, and_false, false_and, false_or, or_false, c_doorsOf hc hh]
  · show f_2011 tT σ 210 (nI 1001) (nI h) = some (nI (wv n B h 1001))
    have z : ¬ nI 1001 = nI 1000 := by decide
    rw [wv_1]
    unfold f_2011
    simp only [la_210, hk, hc.1, z, gd_tt, oA_arr, px_obj_s, Option.bind_some, Option.map_some, Option.bind_none, eq_self, true_or, or_true, px_av_0, px_av_1, px_av_2, px_av_10, px_av_11, bn, wi_1, wi_2, wl_1, wl_21, wl_22, wr_1, wr_21, wr_22, Sum.elim_inl, Sum.elim_inr, ↓reduceIte, Nat.reduceLT, Nat.reduceLeDiff, not_false_eq_true, not_true_eq_false, Nat.reduceEqDiff, Nat.reduceAdd, reduceCtorEq, and_true, true_and, and_false, false_and, false_or, or_false, c_threesWith hc hh]
  · show f_2011 tT σ 210 (nI 1002) (nI h) = some (nI (wv n B h 1002))
    have z : ¬ nI 1002 = nI 1000 := by decide
    have z2 : ¬ nI 1002 = nI 1001 := by decide
    rw [wv_2]
    unfold f_2011
    simp only [la_210, hk, hc.1, z, z2, gd_tt, oA_arr, px_obj_s, Option.bind_some, Option.map_some, Option.bind_none, eq_self, true_or, or_true, px_av_0, px_av_1, px_av_2, px_av_10, px_av_11, bn, wi_1, wi_2, wl_1, wl_21, wl_22, wr_1, wr_21, wr_22, Sum.elim_inl, Sum.elim_inr, ↓reduceIte, Nat.reduceLT, Nat.reduceLeDiff, not_false_eq_true, not_true_eq_false, Nat.reduceEqDiff, Nat.reduceAdd, reduceCtorEq, and_true, true_and, and_false, false_and, false_or, or_false, c_foursWith hc hh]
  · show f_2011 tT σ 210 (nI 1003) (nI h) = some (nI (wv n B h 1003))
    have z : ¬ nI 1003 = nI 1000 := by decide
    have z2 : ¬ nI 1003 = nI 1001 := by decide
    have z3 : ¬ nI 1003 = nI 1002 := by decide
    rw [wv_3]
    unfold f_2011
    simp only [la_210, hk, hc.1, z, z2, z3, gd_tt, oA_arr, px_obj_s, Option.bind_some, Option.map_some, Option.bind_none, eq_self, true_or, or_true, px_av_0, px_av_1, px_av_2, px_av_10, px_av_11, bn, wi_1, wi_2, wl_1, wl_21, wl_22, wr_1, wr_21, wr_22, Sum.elim_inl, Sum.elim_inr, ↓reduceIte, Nat.reduceLT, Nat.reduceLeDiff, not_false_eq_true, not_true_eq_false, Nat.reduceEqDiff, Nat.reduceAdd, reduceCtorEq, and_true, true_and, and_false, false_and, false_or, or_false, c_farthest hc hh]
/-- one word found -/
theorem c_word (hR : cR σ.2.2) (hk : σ.2.2 210 7 = some u) (hu : ok4 u) (hc : ct σ u n B) (W : Int32) {w : Nat} (hw9 : w < 9) : ∃ υ, f_2010_42 tT σ 210 W (nI w) = some (.inl (nI (w + 1), υ)) ∧ fr SNw σ υ ∧ (∀ h, h < n → υ.1 220 (wsl w h) = nI (wv n B h (wcd w))) ∧ (∀ j, j < w * 11 ∨ w * 11 + 11 ≤ j → υ.1 220 j = σ.1 220 j) ∧ υ.1 210 8 = σ.1 210 8 := by
  have hw := hc.2.2.2.1
  have hn := hw.1
  have e1 := hc.2.2.2.2.1
  by_cases h4 : w < 4
  · have key : ∃ b, f_2010_203 tT 210 W (nI w) (nI (w * 11)) (nI 0) σ = some b ∧ ∃ υ, b = .inl (nI (w + 1), υ) ∧ fr SNw σ υ ∧ (∀ h, h < n → υ.1 220 (wsl w h) = nI (wv n B h (wcd w))) ∧ (∀ j, j < w * 11 ∨ w * 11 + 11 ≤ j → υ.1 220 j = σ.1 220 j) ∧ υ.1 210 8 = σ.1 210 8 := by
      unfold f_2010_203
      refine lp_for (F := fun s : Int32 × px_M => F_2010_203 tT 210 W (nI w) (nI (w * 11)) s.1 s.2) (fun k q => ∃ ρ, q = (nI k, ρ) ∧ fr SNw σ ρ ∧ (∀ h, h < k → ρ.1 220 (w * 11 + h) = nI (wv n B h (wcd w))) ∧ (∀ j, j < w * 11 ∨ w * 11 + 11 ≤ j → ρ.1 220 j = σ.1 220 j) ∧ ρ.1 210 8 = σ.1 210 8 ∧ ρ.2.2 210 7 = some u) _ n (fun k q hk2 hI => ?_) (fun q hI => ?_) 0 (nI 0, σ) (by omega) ⟨σ, rfl, fr_rf _ _, fun h hh => by omega, fun _ _ => rfl, rfl, hk⟩
      · obtain ⟨ρ, rfl, g1, g2, g3, g4, g5⟩ := hI
        have hcρ := ct_SN hu g1 hc
        have hRρ := cR_fr g1 hR
        have o1 := c_ofHouse g5 hcρ h4 hk2
        have a1 : ¬ nI n ≤ nI k := by rw [nI_leI (by omega) (by omega)]; omega
        have c1 : vp_in (nI (w * 11 + k)) 99 := (vp_in_eq (by omega)).mpr (by omega)
        have c2 : (nI (w * 11 + k)).toNatClampNeg = w * 11 + k := nI_clamp (by omega)
        have ew : wcd w = 1000 + w := by unfold wcd; rw [if_pos h4]
        refine ⟨(nI (k + 1), px_wi ρ 220 (w * 11 + k) (nI (wv n B k (1000 + w)))), ?_, _, rfl, fr_wi g1 _ (SN_220 _), fun h hh => ?_, fun j hj => ?_, ?_, g5⟩
        · dsimp only
          unfold F_2010_203 f_2010_236
          simp only [la_210, la_220, g5, rc_210_4 hRρ, hcρ.1, hcρ.2.2.2.2.1, a1, gd_tt, oA_arr, px_obj_s, Option.bind_some, Option.map_some, Option.bind_none, eq_self, true_or, or_true, px_av_0, px_av_1, px_av_2, px_av_10, px_av_11, bn, wi_1, wi_2, wl_1, wl_21, wl_22, wr_1, wr_21, wr_22, Sum.elim_inl, Sum.elim_inr, ↓reduceIte, Nat.reduceLT, Nat.reduceLeDiff, not_false_eq_true, not_true_eq_false, Nat.reduceEqDiff, Nat.reduceAdd, reduceCtorEq, and_true, true_and, and_false, false_and, false_or, or_false, nI_add, o1, c1, c2]
        · show px_up ρ.1 220 (w * 11 + k) _ 220 (w * 11 + h) = _
          rw [up_s]
          by_cases q : h = k
          · subst q; rw [if_pos rfl, ew]
          · rw [if_neg (by omega)]; exact g2 h (by omega)
        · show px_up ρ.1 220 (w * 11 + k) _ 220 j = _
          rw [up_s, if_neg (by omega)]; exact g3 j hj
        · rw [wi_n (by decide)]; exact g4
      · obtain ⟨ρ, rfl, g1, g2, g3, g4, g5⟩ := hI
        have hcρ := ct_SN hu g1 hc
        refine ⟨.inl (nI (w + 1), ρ), ?_, ρ, rfl, g1, fun h hh => ?_, g3, g4⟩
        · have a1 : nI n ≤ nI n := by rw [nI_leI (by omega) (by omega)]; omega
          dsimp only
          unfold F_2010_203 f_2010_242
          simp only [la_210, g5, hcρ.1, hcρ.2.2.2.2.1, a1, gd_tt, oA_arr, px_obj_s, Option.bind_some, Option.map_some, Option.bind_none, eq_self, true_or, or_true, px_av_0, px_av_1, px_av_2, px_av_10, px_av_11, bn, wi_1, wi_2, wl_1, wl_21, wl_22, wr_1, wr_21, wr_22, Sum.elim_inl, Sum.elim_inr, ↓reduceIte, Nat.reduceLT, Nat.reduceLeDiff, not_false_eq_true, not_true_eq_false, Nat.reduceEqDiff, Nat.reduceAdd, reduceCtorEq, and_true, true_and, and_false, false_and, false_or, or_false, nI_add]
        · unfold wsl; rw [if_pos h4]; exact g2 h hh
    obtain ⟨b, q1, υ, rfl, q2⟩ := key
    refine ⟨υ, ?_, q2⟩
    have ne : ∀ k, 1004 ≤ k → k < 2 ^ 31 → ¬ nI (1000 + w) = nI k := fun k hk1 hk2 => by rw [nI_eq (by omega) hk2]; omega
    unfold f_2010_42 f_2010_48
    simp only [nI_add, pk_mul, ne 1004 (by decide) (by decide), ne 1005 (by decide) (by decide), ne 1006 (by decide) (by decide), ne 1007 (by decide) (by decide), ne 1008 (by decide) (by decide), ↓reduceIte, q1]
  · -- a word of the town
    have wr : ∀ (ρ : px_M) (v : Nat), fr SNw σ ρ → (∀ j, ρ.1 220 j = σ.1 220 j) → ρ.1 210 8 = σ.1 210 8 → (∀ h, wv n B h (wcd w) = v) → fr SNw σ (px_wi ρ 220 (w * 11) (nI v)) ∧ (∀ h, h < n → (px_wi ρ 220 (w * 11) (nI v)).1 220 (wsl w h) = nI (wv n B h (wcd w))) ∧ (∀ j, j < w * 11 ∨ w * 11 + 11 ≤ j → (px_wi ρ 220 (w * 11) (nI v)).1 220 j = σ.1 220 j) ∧ (px_wi ρ 220 (w * 11) (nI v)).1 210 8 = σ.1 210 8 := by
      intro ρ v g1 g2 g3 g4
      refine ⟨fr_wi g1 _ (SN_220 _), fun h _ => ?_, fun j hj => ?_, ?_⟩
      · unfold wsl
        rw [if_neg h4, Nat.add_zero, g4 h]; exact wi_s _ _ _ _
      · show px_up ρ.1 220 (w * 11) _ 220 j = _
        rw [up_s, if_neg (by omega)]; exact g2 j
      · rw [wi_n (by decide)]; exact g3
    have wr0 := fun v => wr σ v (fr_rf _ _) (fun _ => rfl) rfl
    have hq : w = 4 ∨ w = 5 ∨ w = 6 ∨ w = 7 ∨ w = 8 := by omega
    rcases hq with rfl | rfl | rfl | rfl | rfl
    · refine ⟨_, ?_, wr0 n (fun h => wv_h n B h)⟩
      have c1 : vp_in (nI (4 * 11)) 99 := (vp_in_eq (by omega)).mpr (by omega)
      have c2 : (nI (4 * 11)).toNatClampNeg = 4 * 11 := nI_clamp (by omega)
      have z : nI (1000 + 4) = nI 1004 := rfl
      unfold f_2010_42 f_2010_48 f_2010_242
      simp only [nI_add, pk_mul, z, la_210, la_220, hk, rc_210_4 hR, hc.1, e1, eq_self, ↓reduceIte, gd_tt, px_obj_s, oA_arr, Option.bind_some, c1, c2]
    · refine ⟨_, ?_, wr0 (dm n B) (fun h => wv_4 n B h)⟩
      have c1 : vp_in (nI (5 * 11)) 99 := (vp_in_eq (by omega)).mpr (by omega)
      have c2 : (nI (5 * 11)).toNatClampNeg = 5 * 11 := nI_clamp (by omega)
      have z : nI (1000 + 5) = nI 1005 := rfl
      have z4 : ¬ nI 1005 = nI 1004 := by decide
      unfold f_2010_42 f_2010_48 f_2010_242
      simp only [nI_add, pk_mul, z, z4, la_210, la_220, hk, rc_210_4 hR, hc.1, c_doors hc, eq_self, ↓reduceIte, gd_tt, px_obj_s, oA_arr, Option.bind_some, c1, c2]
    · refine ⟨_, ?_, wr0 (mgs n B) (fun h => wv_5 n B h)⟩
      have c1 : vp_in (nI (6 * 11)) 99 := (vp_in_eq (by omega)).mpr (by omega)
      have c2 : (nI (6 * 11)).toNatClampNeg = 6 * 11 := nI_clamp (by omega)
      have z : nI (1000 + 6) = nI 1006 := rfl
      have z4 : ¬ nI 1006 = nI 1004 := by decide
      have z5 : ¬ nI 1006 = nI 1005 := by decide
      unfold f_2010_42 f_2010_48 f_2010_242
      simp only [nI_add, pk_mul, z, z4, z5, la_210, la_220, hk, rc_210_4 hR, hc.1, c_mostGuests hc, eq_self, ↓reduceIte, gd_tt, px_obj_s, oA_arr, Option.bind_some, c1, c2]
    · obtain ⟨h1, h2, h3, h5, -⟩ := id hu
      obtain ⟨ρ, q1, q2, -⟩ := c_fewest (P := 211) (t := u) (s := 2 ^ n - 1) la_211 la_212 (rc_211_0 hR) (by decide) (by decide) (by decide) h1 h2 h3 h5 hc (by have := Nat.two_pow_pos n; omega)
      have hRρ := cR_fr q2 hR
      refine ⟨_, ?_, wr ρ (chi n B (2 ^ n - 1)) (fr_mono q2 SN_SP) (fun j => q2.1 220 j rfl) (q2.1 210 8 rfl) (fun h => wv_6 n B h)⟩
      have c1 : vp_in (nI (7 * 11)) 99 := (vp_in_eq (by omega)).mpr (by omega)
      have c2 : (nI (7 * 11)).toNatClampNeg = 7 * 11 := nI_clamp (by omega)
      have z : nI (1000 + 7) = nI 1007 := rfl
      have z4 : ¬ nI 1007 = nI 1004 := by decide
      have z5 : ¬ nI 1007 = nI 1005 := by decide
      have z6 : ¬ nI 1007 = nI 1006 := by decide
      unfold f_2010_42 f_2010_48 f_2010_242
      simp only [nI_add, pk_mul, z, z4, z5, z6, la_210, la_220, la_211, hk, rc_210_4 hR, rc_210_0 hR, hc.1, c_all hc, q1, eq_self, ↓reduceIte, gd_tt, px_obj_s, oA_arr, Option.bind_some, c1, c2]
    · have c1 : vp_in (nI (8 * 11)) 99 := (vp_in_eq (by omega)).mpr (by omega)
      have c2 : (nI (8 * 11)).toNatClampNeg = 8 * 11 := nI_clamp (by omega)
      have z : nI (1000 + 8) = nI 1008 := rfl
      have z4 : ¬ nI 1008 = nI 1004 := by decide
      have z5 : ¬ nI 1008 = nI 1005 := by decide
      have z6 : ¬ nI 1008 = nI 1006 := by decide
      have z7 : ¬ nI 1008 = nI 1007 := by decide
      by_cases hq : hv n B = -1
      · refine ⟨_, ?_, wr0 0 (fun h => (wv_7 n B h).trans (if_pos hq))⟩
        unfold f_2010_42 f_2010_48 f_2010_242
        simp only [nI_add, pk_mul, z, z4, z5, z6, z7, la_210, la_220, hk, rc_210_4 hR, hc.1, c_all hc, c_hv hc, hq, bn, eq_self, ↓reduceIte, gd_tt, px_obj_s, oA_arr, Option.bind_some, c1, c2]
      · refine ⟨_, ?_, wr0 1 (fun h => (wv_7 n B h).trans (if_neg hq))⟩
        unfold f_2010_42 f_2010_48 f_2010_242
        simp only [nI_add, pk_mul, z, z4, z5, z6, z7, la_210, la_220, hk, rc_210_4 hR, hc.1, c_all hc, c_hv hc, hq, bn, eq_self, ↓reduceIte, gd_tt, px_obj_s, oA_arr, Option.bind_some, c1, c2]
theorem wsl_lo {w v h : Nat} (hh : h < 11) (hv9 : v ≠ w) : wsl v h < w * 11 ∨ w * 11 + 11 ≤ wsl v h := by unfold wsl; split <;> omega
theorem c_find (hR : cR σ.2.2) (hk : σ.2.2 210 7 = some u) (hu : ok4 u) (hc : ct σ u n B) {k W : Nat} (hk5 : k < 512) (hW : W < 512) (hkn : σ.1 210 8 = nI k) (hK : knw σ n B (fun w => k.testBit w = true)) : ∃ υ, f_2010 tT σ 210 (nI W) = some υ ∧ fr SNw σ υ ∧ υ.1 210 8 = nI (k ||| W) ∧ knw υ n B (fun w => (k ||| W).testBit w = true) := by
  have hn := hc.2.2.2.1.1
  have hnd : ∀ w, (nd W k).testBit w = (W.testBit w && !k.testBit w) := fun w => nd_tb (by omega) w
  have hndl : nd W k < 2048 := Nat.lt_of_le_of_lt Nat.and_le_left (by omega)
  have hor := or_512 hk5 hW
  have lp : ∀ ρ, fr SNw σ ρ → ρ.1 210 8 = nI (k ||| W) → (∀ j, ρ.1 220 j = σ.1 220 j) → ρ.2.2 210 7 = some u → ∃ υ, f_2010_21 tT 210 (nI (nd W k)) (nI 0) ρ = some υ ∧ fr SNw σ υ ∧ υ.1 210 8 = nI (k ||| W) ∧ knw υ n B (fun w => (k ||| W).testBit w = true) := by
    intro ρ hf hf8 hf2 hf7
    unfold f_2010_21
    refine lp_rel (F := fun s : Int32 × px_M => F_2010_21 tT 210 (nI (nd W k)) s.1 s.2) (fun j q => ∃ ω, q = (nI j, ω) ∧ fr SNw σ ω ∧ ω.1 210 8 = nI (k ||| W) ∧ ω.2.2 210 7 = some u ∧ knw ω n B (fun w => k.testBit w = true ∨ (w < j ∧ W.testBit w = true))) (fun υ => fr SNw σ υ ∧ υ.1 210 8 = nI (k ||| W) ∧ knw υ n B (fun w => (k ||| W).testBit w = true)) 9 (fun j q hj hI => ?_) 0 (nI 0, ρ) (by omega) ⟨ρ, rfl, hf, hf8, hf7, fun w hw9 hp h hh => by
      rw [hf2]
      rcases hp with hp | hp
      · exact hK w hw9 hp h hh
      · omega⟩
    obtain ⟨ω, rfl, g1, g2, g3, g4⟩ := hI
    by_cases hj9 : j = 9
    · subst hj9
      refine Or.inr ⟨ω, ?_, g1, g2, fun w hw9 hp => ?_⟩
      · dsimp only
        unfold F_2010_21
        rw [if_pos (by decide)]
      · refine g4 w hw9 ?_
        replace hp : (k ||| W).testBit w = true := hp
        rw [Nat.testBit_or, Bool.or_eq_true] at hp
        exact hp.imp id (fun q => ⟨hw9, q⟩)
    · have a1 : ¬ nI 9 ≤ nI j := by rw [nI_leI (by omega) (by omega)]; omega
      by_cases hz : nd W k = 0
      · refine Or.inr ⟨ω, ?_, g1, g2, fun w hw9 hp => ?_⟩
        · dsimp only
          unfold F_2010_21
          rw [if_neg a1, hz, if_pos rfl]
        · refine g4 w hw9 (Or.inl ?_)
          replace hp : (k ||| W).testBit w = true := hp
          rw [Nat.testBit_or, Bool.or_eq_true] at hp
          rcases hp with hp | hp
          · exact hp
          · have := hnd w
            rw [hz, Nat.zero_testBit, hp, Bool.true_and] at this
            cases hkw : k.testBit w
            · rw [hkw] at this; cases this
            · rfl
      · have a2 : ¬ nI (nd W k) = nI 0 := by rw [nI_eq (by omega) (by omega)]; exact hz
        refine Or.inl ?_
        by_cases hb : (nd W k).testBit j = true
        · obtain ⟨υ, q1, q2, q3, q4, q5⟩ := c_word (w := j) (cR_fr g1 hR) g3 hu (ct_SN hu g1 hc) (nI (nd W k)) (by omega)
          refine ⟨(nI (j + 1), υ), ?_, by omega, υ, rfl, fr_tr g1 q2, q5.trans g2, ?_, fun w hw9 hp h hh => ?_⟩
          · have a3 : ¬ nI (nd W k) &&& (nI 1 <<< (nI j &&& 31)) = nI 0 := by rw [ni_tst (by omega) (by omega), hb]; simp
            dsimp only
            unfold F_2010_21
            rw [if_neg a1, if_neg a2]
            unfold bn
            rw [if_neg a3, q1]
          · rw [q2.2.2 210 7 (Or.inl rfl)]; exact g3
          · by_cases hwj : w = j
            · subst hwj; exact q3 h hh
            · rw [q4 _ (wsl_lo (by omega) hwj)]
              exact g4 w hw9 (hp.imp id (fun q => ⟨by omega, q.2⟩)) h hh
        · have hb0 : (nd W k).testBit j = false := Bool.eq_false_iff.mpr hb
          refine ⟨(nI (j + 1), ω), ?_, by omega, ω, rfl, g1, g2, g3, fun w hw9 hp h hh => ?_⟩
          · have a3 : nI (nd W k) &&& (nI 1 <<< (nI j &&& 31)) = nI 0 := by rw [ni_tst (by omega) (by omega)]; exact hb0
            dsimp only
            unfold F_2010_21 f_2010_242
            rw [if_neg a1, if_neg a2]
            unfold bn
            rw [if_pos a3, nI_add]
          · refine g4 w hw9 ?_ h hh
            rcases hp with hp | ⟨hp, hp2⟩
            · exact Or.inl hp
            · by_cases hwj : w = j
              · subst hwj
                rw [hnd, hp2, Bool.true_and] at hb0
                cases hkw : k.testBit w
                · rw [hkw] at hb0; cases hb0
                · exact Or.inl rfl
              · exact Or.inr ⟨by omega, hp2⟩
  obtain ⟨υ, q1, q2⟩ := lp (px_wi σ 210 8 (nI (k ||| W))) (fr_wi (fr_rf _ _) _ rfl) (wi_s _ _ _ _) (fun j => wi_n (by decide)) hk
  refine ⟨υ, ?_, q2⟩
  simp only [f_2010, f_2010_9, la_210, px_obj_s, gd_tt, hkn, ni_nd (show W < 2048 by omega), fa_or, q1]
end
