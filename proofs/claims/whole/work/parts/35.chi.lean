/-! the fewest colours -/
/-- so many colours do for a set -/
def col (B : Nat → Nat) (n s k : Nat) : Prop := ∃ c, pc B s k n c
noncomputable def chi (n : Nat) (B : Nat → Nat) (s : Nat) : Nat := fa_first (fun k => @decide (col B n s k) (Classical.propDecidable _)) 11
section
variable {σ τ : px_M} {t n : Nat} {B : Nat → Nat} {s k : Nat}
theorem col_Ex {κ : Nat → Nat} : Ex B n s k 0 κ ↔ col B n s k := by
  constructor
  · rintro ⟨c, -, h⟩; exact ⟨c, h⟩
  · rintro ⟨c, h⟩; exact ⟨c, fun x hx => absurd hx (by omega), h⟩
theorem col_mono {j : Nat} (h : col B n s k) (hk : k ≤ j) : col B n s j := by
  obtain ⟨c, h1, h2⟩ := h
  exact ⟨c, fun x hx hs => Nat.lt_of_lt_of_le (h1 x hx hs) hk, h2⟩
theorem col_11 (hw : wf n B) : col B n s 11 := ⟨fun x => x, fun x hx _ => Nat.lt_of_lt_of_le hx hw.1, fun x y _ _ _ _ hxy => wf_ne hw hxy⟩
theorem chi_le : chi n B s ≤ 11 := fa_first_le _ 11
theorem chi_no {j : Nat} (hj : j < chi n B s) : ¬ col B n s j := by
  have := fa_first_no (fun k => @decide (col B n s k) (Classical.propDecidable _)) 11 j hj
  exact @of_decide_eq_false _ (Classical.propDecidable _) this
theorem chi_col (hw : wf n B) : col B n s (chi n B s) := by
  rcases Nat.lt_or_ge (chi n B s) 11 with h | h
  · have := fa_first_yes (fun k => @decide (col B n s k) (Classical.propDecidable _)) 11 h
    exact @of_decide_eq_true _ (Classical.propDecidable _) this
  · have : chi n B s = 11 := by have := chi_le (n := n) (B := B) (s := s); omega
    rw [this]; exact col_11 hw
theorem chi_uniq (hw : wf n B) (h1 : col B n s k) (h2 : ∀ j, j < k → ¬ col B n s j) : chi n B s = k := by
  rcases Nat.lt_or_ge (chi n B s) k with h | h
  · exact absurd (chi_col hw) (h2 _ h)
  · rcases Nat.lt_or_ge k (chi n B s) with h' | h'
    · exact absurd h1 (chi_no h')
    · omega
theorem e_fewest {bt : Int32} (hm : mo σ n B) (hbt : ∀ x, x < n → (nI x = bt ↔ s.testBit x = false)) : ∃ υ, f_43 tT σ 0 bt = some (nI (chi n B s), υ) ∧ fr (on 16) σ υ ∧ ∃ c, pc B s (chi n B s) n c ∧ GF B n s (chi n B s) 0 c ∧ ∀ x, x < n → s.testBit x = true → υ.1 16 x = nI (c x) := by
  have hw := hm.2.1
  have hn := hw.1
  unfold f_43 f_43_2
  obtain ⟨b, hb, υ, rfl, r1, r2⟩ := lp_rel (F := fun q : Int32 × px_M => F_43_2 tT 0 bt q.1 q.2) (fun j q => q.1 = nI j ∧ fr (on 16) σ q.2 ∧ ∀ e, e < j → ¬ col B n s e) (fun b => ∃ υ, b = (nI (chi n B s), υ) ∧ fr (on 16) σ υ ∧ ∃ c, pc B s (chi n B s) n c ∧ GF B n s (chi n B s) 0 c ∧ ∀ x, x < n → s.testBit x = true → υ.1 16 x = nI (c x)) 11 (fun j q hj hI => by
    obtain ⟨x, ρ⟩ := q
    obtain ⟨hx, g1, g2⟩ := hI
    dsimp only at hx g1 g2
    subst hx
    have hp0 : pc B s j 0 (fun _ => 0) := ⟨fun x hx => absurd hx (by omega), fun x y hx => absurd hx (by omega)⟩
    rcases e_dyes (k := j) (by omega) hbt n 0 (by omega) 24 (by omega) ρ (fun _ => 0) (mo_on (by decide) g1 hm) hp0 (fun x hx => absurd hx (by omega)) with ⟨υ, q1, q2, q3, c, c1, c2, c3, c4⟩ | ⟨υ, q1, q2, q3, q4⟩
    · right
      have hchi : chi n B s = j := chi_uniq hw ⟨c, c2⟩ g2
      refine ⟨(nI j, υ), ?_, υ, by rw [hchi], fr_tr g1 q2, c, by rw [hchi]; exact c2, by rw [hchi]; exact c3, c4⟩
      simp only [F_43_2, la_0, gd_tt, oA_arr, px_obj_s, Option.bind_some, Option.map_some, Option.bind_none, eq_self, true_or, or_true, px_av_0, px_av_1, px_av_2, px_av_10, px_av_11, bn, wi_1, wi_2, wl_1, wl_21, wl_22, wr_1, wr_21, wr_22, Sum.elim_inl, Sum.elim_inr, ↓reduceIte, Nat.reduceLT, Nat.reduceLeDiff, not_false_eq_true, not_true_eq_false, Nat.reduceEqDiff, Nat.reduceAdd, reduceCtorEq, and_true, true_and, and_false, false_and, false_or, or_false, q1, n10]
    · left
      have hno : ¬ col B n s j := fun q => q4 (col_Ex.mpr q)
      have hj11 : j < 11 := by
        rcases Nat.lt_or_ge j 11 with h | h
        · exact h
        · have : j = 11 := by omega
          subst this; exact absurd (col_11 hw) hno
      refine ⟨(nI (j + 1), υ), ?_, hj11, rfl, fr_tr g1 q2, fun e he => ?_⟩
      · simp only [F_43_2, la_0, gd_tt, oA_arr, px_obj_s, Option.bind_some, Option.map_some, Option.bind_none, eq_self, true_or, or_true, px_av_0, px_av_1, px_av_2, px_av_10, px_av_11, bn, wi_1, wi_2, wl_1, wl_21, wl_22, wr_1, wr_21, wr_22, Sum.elim_inl, Sum.elim_inr, ↓reduceIte, Nat.reduceLT, Nat.reduceLeDiff, not_false_eq_true, not_true_eq_false, Nat.reduceEqDiff, Nat.reduceAdd, reduceCtorEq, and_true, true_and, and_false, false_and, false_or, or_false, q1, nI_add]
      · by_cases hej : e = j
        · subst hej; exact hno
        · exact g2 e (by omega)) 0 (nI 0, σ) (by omega) ⟨rfl, fr_rf _ _, fun e he => absurd he (by omega)⟩
  exact ⟨υ, hb, r1, r2⟩
/-- all houses, and all but one, as the model tells them -/
theorem bt_all (hn : n ≤ 11) : ∀ x, x < n → (nI x = (-1 : Int32) ↔ (2 ^ n - 1).testBit x = false) := fun x hx => by
  rw [tb_all, decide_eq_true hx]
  constructor
  · intro q; exact absurd q (nI_m1 (by omega))
  · intro q; cases q
theorem bt_but (hn : n ≤ 11) {h : Nat} (hh : h < n) : ∀ x, x < n → (nI x = nI h ↔ (nd (2 ^ n - 1) (2 ^ h)).testBit x = false) := fun x hx => by
  rw [nd_tb (al_lt hn), tb_all, decide_eq_true hx, Nat.testBit_two_pow, nI_eq (by omega) (by omega)]
  by_cases hxh : x = h
  · subst hxh; simp
  · have : ¬ h = x := fun q => hxh q.symm
    simp [hxh, this]
/-! the class's painter: extending what is painted -/
/-- those left can be painted too -/
def PE (B : Nat → Nat) (n left k : Nat) (W : Nat → Nat) : Prop := ∃ c : Nat → Nat, (∀ x, x < n → left.testBit x = true → c x < k ∧ W (c x) &&& B x = 0) ∧ ∀ x y, x < n → y < n → left.testBit x = true → left.testBit y = true → (B x).testBit y = true → c x ≠ c y
theorem PE_0 (W : Nat → Nat) : PE B n 0 k W := ⟨fun _ => 0, fun x _ h => by simp at h, fun x y _ _ h => by simp at h⟩
theorem and_0iff {a b : Nat} : a &&& b = 0 ↔ ∀ i, ¬ (a.testBit i = true ∧ b.testBit i = true) := by
  constructor
  · intro h i hi
    have : (a &&& b).testBit i = true := by rw [Nat.testBit_and, hi.1, hi.2]; rfl
    rw [h] at this
    simp at this
  · intro h
    apply tb_eq
    intro i
    rw [Nat.testBit_and, Nat.zero_testBit, Bool.and_eq_true]
    exact ⟨fun q => absurd q (h i), fun q => by cases q⟩
/-- one house painted -/
def wU (W : Nat → Nat) (c h : Nat) : Nat → Nat := fun x => if x = c then W c ||| 2 ^ h else W x
theorem PE_step (hw : wf n B) {left h used : Nat} {W : Nat → Nat} (hl : left < 2 ^ n) (hh : left.testBit h = true) (hW : ∀ c, used ≤ c → c < k → W c = 0) : PE B n left k W ↔ ∃ c, c ≤ used ∧ c < k ∧ W c &&& B h = 0 ∧ PE B n (nd left (2 ^ h)) k (wU W c h) := by
  have hhn := tb_lt hl hh
  have hl11 : left < 2048 := Nat.lt_of_lt_of_le hl (pw_le hw.1)
  have hndb : ∀ x, (nd left (2 ^ h)).testBit x = true ↔ left.testBit x = true ∧ x ≠ h := fun x => by
    rw [nd_tb hl11, Nat.testBit_two_pow, Bool.and_eq_true, Bool.not_eq_true', decide_eq_false_iff_not]
    exact ⟨fun q => ⟨q.1, fun z => q.2 z.symm⟩, fun q => ⟨q.1, fun z => q.2 z.symm⟩⟩
  constructor
  · rintro ⟨c, h1, h2⟩
    -- a colour at most used
    have : ∃ c : Nat → Nat, (∀ x, x < n → left.testBit x = true → c x < k ∧ W (c x) &&& B x = 0) ∧ (∀ x y, x < n → y < n → left.testBit x = true → left.testBit y = true → (B x).testBit y = true → c x ≠ c y) ∧ c h ≤ used := by
      by_cases hcu : c h ≤ used
      · exact ⟨c, h1, h2, hcu⟩
      · have hch := (h1 h hhn hh).1
        refine ⟨fun x => if c x = c h then used else if c x = used then c h else c x, fun x hx hlx => ?_, fun x y hx hy hlx hly hxy => ?_, by simp⟩
        · obtain ⟨q1, q2⟩ := h1 x hx hlx
          by_cases e1 : c x = c h
          · simp only [e1, ↓reduceIte]
            exact ⟨by omega, by rw [hW used (Nat.le_refl _) (by omega)]; simp⟩
          · by_cases e2 : c x = used
            · have e3 : ¬ used = c h := by omega
              simp only [e2, e3, ↓reduceIte]
              exact ⟨hch, by rw [hW (c h) (by omega) hch]; simp⟩
            · simp only [e1, e2, ↓reduceIte]
              exact ⟨q1, q2⟩
        · have hne := h2 x y hx hy hlx hly hxy
          dsimp only
          repeat' split
          all_goals omega
    obtain ⟨c, h1, h2, h3⟩ := this
    obtain ⟨q1, q2⟩ := h1 h hhn hh
    refine ⟨c h, h3, q1, q2, c, fun x hx hlx => ?_, fun x y hx hy hlx hly hxy => h2 x y hx hy ((hndb x).mp hlx).1 ((hndb y).mp hly).1 hxy⟩
    obtain ⟨hlx1, hlx2⟩ := (hndb x).mp hlx
    obtain ⟨r1, r2⟩ := h1 x hx hlx1
    refine ⟨r1, ?_⟩
    unfold wU
    by_cases e : c x = c h
    · rw [if_pos e, and_0iff]
      rintro i ⟨i1, i2⟩
      rw [Nat.testBit_or, Bool.or_eq_true, Nat.testBit_two_pow, decide_eq_true_eq] at i1
      rcases i1 with i1 | i1
      · rw [e] at r2
        exact and_0iff.mp r2 i ⟨i1, i2⟩
      · rw [← i1] at i2
        exact h2 x h hx hhn hlx1 hh i2 e
    · rw [if_neg e]; exact r2
  · rintro ⟨e, -, e2, e3, c, h1, h2⟩
    have hun : ∀ x, left.testBit x = true → x ≠ h → (nd left (2 ^ h)).testBit x = true := fun x q1 q2 => (hndb x).mpr ⟨q1, q2⟩
    have hx_h : ∀ x, x < n → left.testBit x = true → x ≠ h → (B x).testBit h = true → c x ≠ e := by
      intro x hx hlx hxh hb q
      have := (h1 x hx (hun x hlx hxh)).2
      unfold wU at this
      rw [if_pos q, and_0iff] at this
      refine this h ⟨?_, hb⟩
      rw [Nat.testBit_or, Nat.testBit_two_pow]
      simp
    refine ⟨fun x => if x = h then e else c x, fun x hx hlx => ?_, fun x y hx hy hlx hly hxy => ?_⟩
    · by_cases hxh : x = h
      · subst hxh; simp only [↓reduceIte]; exact ⟨e2, e3⟩
      · simp only [hxh, ↓reduceIte]
        obtain ⟨r1, r2⟩ := h1 x hx (hun x hlx hxh)
        refine ⟨r1, ?_⟩
        unfold wU at r2
        by_cases q : c x = e
        · rw [if_pos q, and_0iff] at r2
          rw [and_0iff]
          rintro i ⟨i1, i2⟩
          refine r2 i ⟨?_, i2⟩
          rw [q] at i1
          rw [Nat.testBit_or, i1]
          rfl
        · rw [if_neg q] at r2; exact r2
    · by_cases hxh : x = h
      · subst hxh
        have hyx : y ≠ x := (wf_ne hw hxy).symm
        simp only [↓reduceIte, hyx]
        exact fun q => hx_h y hy hly hyx (wf_s hw hxy) q.symm
      · by_cases hyh : y = h
        · subst hyh
          simp only [↓reduceIte, hxh]
          exact hx_h x hx hlx hxh hxy
        · simp only [hxh, hyh, ↓reduceIte]
          exact h2 x y hx hy (hun x hlx hxh) (hun y hly hyh) hxy
end
