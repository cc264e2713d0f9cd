/-! colours: what can be dyed -/
/-- colours below k for those of a set below m, no two neighbours alike -/
def pc (B : Nat → Nat) (s k m : Nat) (c : Nat → Nat) : Prop := (∀ x, x < m → s.testBit x = true → c x < k) ∧ ∀ x y, x < m → y < m → s.testBit x = true → s.testBit y = true → (B x).testBit y = true → c x ≠ c y
/-- colours can be had that are as told below h -/
def Ex (B : Nat → Nat) (n s k h : Nat) (κ : Nat → Nat) : Prop := ∃ c, (∀ x, x < h → s.testBit x = true → c x = κ x) ∧ pc B s k n c
def un (κ : Nat → Nat) (h e : Nat) : Nat → Nat := fun x => if x = h then e else κ x
/-- no house from h on could have a lesser colour, those ahead of it as they are -/
def GF (B : Nat → Nat) (n s k h : Nat) (c : Nat → Nat) : Prop := ∀ y, h ≤ y → y < n → s.testBit y = true → ∀ e, e < c y → ¬ Ex B n s k (y + 1) (un c y e)
section
variable {σ τ : px_M} {t n : Nat} {B : Nat → Nat} {s k : Nat}
theorem Ex_n {κ : Nat → Nat} : Ex B n s k n κ ↔ pc B s k n κ := by
  constructor
  · rintro ⟨c, h1, h2, h3⟩
    exact ⟨fun x hx hs => by rw [← h1 x hx hs]; exact h2 x hx hs, fun x y hx hy hsx hsy hxy => by rw [← h1 x hx hsx, ← h1 y hy hsy]; exact h3 x y hx hy hsx hsy hxy⟩
  · intro h; exact ⟨κ, fun _ _ _ => rfl, h⟩
theorem Ex_skip {h : Nat} {κ : Nat → Nat} (hs : s.testBit h = false) : Ex B n s k h κ ↔ Ex B n s k (h + 1) κ := by
  constructor
  · rintro ⟨c, h1, h2⟩
    refine ⟨c, fun x hx hsx => ?_, h2⟩
    by_cases hxh : x = h
    · subst hxh; rw [hs] at hsx; cases hsx
    · exact h1 x (by omega) hsx
  · rintro ⟨c, h1, h2⟩
    exact ⟨c, fun x hx hsx => h1 x (by omega) hsx, h2⟩
theorem Ex_step {h : Nat} {κ : Nat → Nat} (hh : h < n) (hs : s.testBit h = true) : Ex B n s k h κ ↔ ∃ e, e < k ∧ Ex B n s k (h + 1) (un κ h e) := by
  constructor
  · rintro ⟨c, h1, h2⟩
    refine ⟨c h, h2.1 h hh hs, c, fun x hx hsx => ?_, h2⟩
    unfold un
    by_cases hxh : x = h
    · rw [if_pos hxh, hxh]
    · rw [if_neg hxh]; exact h1 x (by omega) hsx
  · rintro ⟨e, -, c, h1, h2⟩
    refine ⟨c, fun x hx hsx => ?_, h2⟩
    have := h1 x (by omega) hsx
    unfold un at this
    rw [if_neg (by omega)] at this
    exact this
theorem Ex_bad {h x : Nat} {κ : Nat → Nat} (hh : h < n) (hs : s.testBit h = true) (hx : x < h) (hsx : s.testBit x = true) (hb : (B h).testBit x = true) : ¬ Ex B n s k (h + 1) (un κ h (κ x)) := by
  rintro ⟨c, h1, h2⟩
  have e1 := h1 h (by omega) hs
  have e2 := h1 x (by omega) hsx
  unfold un at e1 e2
  rw [if_pos rfl] at e1
  rw [if_neg (by omega)] at e2
  exact h2.2 h x hh (by omega) hs hsx hb (by rw [e1, e2])
theorem Ex_congr {h : Nat} {κ μ : Nat → Nat} (he : ∀ x, x < h → s.testBit x = true → κ x = μ x) : Ex B n s k h κ ↔ Ex B n s k h μ := by
  constructor
  · rintro ⟨c, h1, h2⟩; exact ⟨c, fun x hx hsx => by rw [h1 x hx hsx, he x hx hsx], h2⟩
  · rintro ⟨c, h1, h2⟩; exact ⟨c, fun x hx hsx => by rw [h1 x hx hsx, he x hx hsx], h2⟩
/-- the first colours are one alone -/
theorem GF_uniq {c e : Nat → Nat} (hc : pc B s k n c) (he : pc B s k n e) (gc : GF B n s k 0 c) (ge : GF B n s k 0 e) : ∀ y, y < n → s.testBit y = true → c y = e y := by
  intro y
  induction y using Nat.strongRecOn with
  | ind y ih =>
    intro hy hs
    have key : ∀ a b : Nat → Nat, pc B s k n a → GF B n s k 0 b → (∀ x, x < y → s.testBit x = true → a x = b x) → ¬ a y < b y := by
      intro a b ha gb hab hlt
      refine gb y (by omega) hy hs (a y) hlt ⟨a, fun x hx hsx => ?_, ha⟩
      unfold un
      by_cases hxy : x = y
      · rw [if_pos hxy, hxy]
      · rw [if_neg hxy]; exact hab x (by omega) hsx
    have h1 := key c e hc ge (fun x hx hsx => ih x hx (by omega) hsx)
    have h2 := key e c he gc (fun x hx hsx => (ih x hx (by omega) hsx).symm)
    omega
/-- what the model's dyes comes to -/
def dyT (σ : px_M) (B : Nat → Nat) (n s k h : Nat) (κ : Nat → Nat) (υ : px_M) : Prop := fr (on 16) σ υ ∧ (∀ x, x < h → υ.1 16 x = σ.1 16 x) ∧ ∃ c, (∀ x, x < h → s.testBit x = true → c x = κ x) ∧ pc B s k n c ∧ GF B n s k h c ∧ ∀ x, x < n → s.testBit x = true → υ.1 16 x = nI (c x)
def dyF (σ : px_M) (B : Nat → Nat) (n s k h : Nat) (κ : Nat → Nat) (υ : px_M) : Prop := fr (on 16) σ υ ∧ (∀ x, x < h → υ.1 16 x = σ.1 16 x) ∧ ¬ Ex B n s k h κ
theorem pc_up {h j : Nat} {κ : Nat → Nat} (hw : wf n B) (hp : pc B s k h κ) (hj : j < k) (hok : ∀ x, x < h → s.testBit x = true → (B h).testBit x = true → κ x ≠ j) : pc B s k (h + 1) (un κ h j) := by
  refine ⟨fun x hx hsx => ?_, fun x y hx hy hsx hsy hxy => ?_⟩
  · unfold un
    by_cases hxh : x = h
    · rw [if_pos hxh]; exact hj
    · rw [if_neg hxh]; exact hp.1 x (by omega) hsx
  · unfold un
    by_cases hxh : x = h
    · rw [if_pos hxh]
      by_cases hyh : y = h
      · exact absurd (hxh.trans hyh.symm) (wf_ne hw hxy)
      · rw [if_neg hyh]
        exact fun q => hok y (by omega) hsy (by rw [← hxh]; exact hxy) q.symm
    · rw [if_neg hxh]
      by_cases hyh : y = h
      · rw [if_pos hyh]
        exact hok x (by omega) hsx (by rw [← hyh]; exact wf_s hw hxy)
      · rw [if_neg hyh]
        exact hp.2 x y (by omega) (by omega) hsx hsy hxy
theorem e_dyes {bt : Int32} (hk : k < 100) (hbt : ∀ x, x < n → (nI x = bt ↔ s.testBit x = false)) : ∀ m h, h + m = n → ∀ d, m < d → ∀ (σ : px_M) (κ : Nat → Nat), mo σ n B → pc B s k h κ → (∀ x, x < h → s.testBit x = true → σ.1 16 x = nI (κ x)) → (∃ υ, f_42 tT d σ 0 (nI h) (nI k) bt = some (nI 1, υ) ∧ dyT σ B n s k h κ υ) ∨ ∃ υ, f_42 tT d σ 0 (nI h) (nI k) bt = some (nI 0, υ) ∧ dyF σ B n s k h κ υ := by
  intro m
  induction m with
  | zero =>
    intro h hm d hd σ κ hmo hp hκ
    obtain ⟨d, rfl⟩ : ∃ d', d = d' + 1 := ⟨d - 1, by omega⟩
    obtain ⟨hR, hw, e1, hnb⟩ := id hmo
    have hn := hw.1
    have hh : h = n := by omega
    subst hh
    left
    refine ⟨σ, ?_, fr_rf _ _, fun _ _ => rfl, κ, fun _ _ _ => rfl, hp, fun y hy hy2 => by omega, fun x hx hs => hκ x hx hs⟩
    rw [f_42_S]
    simp (disch := omega) only [F_42, la_0, la_1, la_2, la_3, la_4, la_15, la_16, la_17, la_18, la_19, la_20, la_23, la_24, la_25, la_26, la_27, la_28, la_31, la_35, la_36, la_37, rm_0_1 hR, rm_0_2 hR, rm_0_3 hR, rm_0_4 hR, rm_0_15 hR, rm_0_16 hR, rm_0_17 hR, rm_0_18 hR, rm_0_19 hR, rm_0_20 hR, rm_0_23 hR, rm_0_24 hR, rm_0_25 hR, rm_0_26 hR, rm_0_27 hR, rm_0_28 hR, rm_0_31 hR, rm_0_35 hR, rm_0_36 hR, rm_0_37 hR, gd_tt, oA_arr, px_obj_s, Option.bind_some, Option.map_some, Option.bind_none, eq_self, true_or, or_true, px_av_0, px_av_1, px_av_2, px_av_10, px_av_11, bn, wi_1, wi_2, wl_1, wl_21, wl_22, wr_1, wr_21, wr_22, Sum.elim_inl, Sum.elim_inr, ↓reduceIte, Nat.reduceLT, Nat.reduceLeDiff, not_false_eq_true, not_true_eq_false, Nat.reduceEqDiff, Nat.reduceAdd, reduceCtorEq, and_true, true_and, and_false, false_and, false_or, or_false, true_and, and_true, ni_divL, ni_subL, nI_add, pk_mul, nI_leI, nI_ltI, nI_eq, vp_in_eq, nI_clamp, ↓ni_tst, ni_tst2, fa_and, fa_or, ni_bit1, ni_1s, nI_l, mb_eq0, mb_ne0, mb_eq1, gd_tt, gd_t, bft, e1]
  | succ m ih =>
    intro h hm d hd σ κ hmo hp hκ
    obtain ⟨d, rfl⟩ : ∃ d', d = d' + 1 := ⟨d - 1, by omega⟩
    obtain ⟨hR, hw, e1, hnb⟩ := id hmo
    have hn := hw.1
    have hhn : h < n := by omega
    have hne : ¬ h = n := by omega
    rw [f_42_S]
    cases hs : s.testBit h
    · have hb : nI h = bt := (hbt h hhn).mpr hs
      have hp' : pc B s k (h + 1) κ := by
        have hx' : ∀ x, x < h + 1 → s.testBit x = true → x < h := fun x hx hsx => by
          by_cases hxh : x = h
          · subst hxh; rw [hs] at hsx; cases hsx
          · omega
        exact ⟨fun x hx hsx => hp.1 x (hx' x hx hsx) hsx, fun x y hx hy hsx hsy hxy => hp.2 x y (hx' x hx hsx) (hx' y hy hsy) hsx hsy hxy⟩
      have hκ' : ∀ x, x < h + 1 → s.testBit x = true → σ.1 16 x = nI (κ x) := fun x hx hsx => by
        by_cases hxh : x = h
        · subst hxh; rw [hs] at hsx; cases hsx
        · exact hκ x (by omega) hsx
      rcases ih (h + 1) (by omega) d (by omega) σ κ hmo hp' hκ' with ⟨υ, q1, q2, q3, c, c1, c2, c3, c4⟩ | ⟨υ, q1, q2, q3, q4⟩
      · left
        refine ⟨υ, ?_, q2, fun x hx => q3 x (by omega), c, fun x hx hsx => c1 x (by omega) hsx, c2, fun y hy hy2 hsy => ?_, c4⟩
        · subst hb
          simp (disch := omega) only [F_42, la_0, la_1, la_2, la_3, la_4, la_15, la_16, la_17, la_18, la_19, la_20, la_23, la_24, la_25, la_26, la_27, la_28, la_31, la_35, la_36, la_37, rm_0_1 hR, rm_0_2 hR, rm_0_3 hR, rm_0_4 hR, rm_0_15 hR, rm_0_16 hR, rm_0_17 hR, rm_0_18 hR, rm_0_19 hR, rm_0_20 hR, rm_0_23 hR, rm_0_24 hR, rm_0_25 hR, rm_0_26 hR, rm_0_27 hR, rm_0_28 hR, rm_0_31 hR, rm_0_35 hR, rm_0_36 hR, rm_0_37 hR, q1, gd_tt, oA_arr, px_obj_s, Option.bind_some, Option.map_some, Option.bind_none, eq_self, true_or, or_true, px_av_0, px_av_1, px_av_2, px_av_10, px_av_11, bn, wi_1, wi_2, wl_1, wl_21, wl_22, wr_1, wr_21, wr_22, Sum.elim_inl, Sum.elim_inr, ↓reduceIte, Nat.reduceLT, Nat.reduceLeDiff, not_false_eq_true, not_true_eq_false, Nat.reduceEqDiff, Nat.reduceAdd, reduceCtorEq, and_true, true_and, and_false, false_and, false_or, or_false, true_and, and_true, ni_divL, ni_subL, nI_add, pk_mul, nI_leI, nI_ltI, nI_eq, vp_in_eq, nI_clamp, ↓ni_tst, ni_tst2, fa_and, fa_or, ni_bit1, ni_1s, nI_l, mb_eq0, mb_ne0, mb_eq1, gd_tt, gd_t, bft, e1, hne]
        · by_cases hyh : y = h
          · subst hyh; rw [hs] at hsy; cases hsy
          · exact c3 y (by omega) hy2 hsy
      · right
        refine ⟨υ, ?_, q2, fun x hx => q3 x (by omega), fun q => q4 ((Ex_skip hs).mp q)⟩
        subst hb
        simp (disch := omega) only [F_42, la_0, la_1, la_2, la_3, la_4, la_15, la_16, la_17, la_18, la_19, la_20, la_23, la_24, la_25, la_26, la_27, la_28, la_31, la_35, la_36, la_37, rm_0_1 hR, rm_0_2 hR, rm_0_3 hR, rm_0_4 hR, rm_0_15 hR, rm_0_16 hR, rm_0_17 hR, rm_0_18 hR, rm_0_19 hR, rm_0_20 hR, rm_0_23 hR, rm_0_24 hR, rm_0_25 hR, rm_0_26 hR, rm_0_27 hR, rm_0_28 hR, rm_0_31 hR, rm_0_35 hR, rm_0_36 hR, rm_0_37 hR, q1, gd_tt, oA_arr, px_obj_s, Option.bind_some, Option.map_some, Option.bind_none, eq_self, true_or, or_true, px_av_0, px_av_1, px_av_2, px_av_10, px_av_11, bn, wi_1, wi_2, wl_1, wl_21, wl_22, wr_1, wr_21, wr_22, Sum.elim_inl, Sum.elim_inr, ↓reduceIte, Nat.reduceLT, Nat.reduceLeDiff, not_false_eq_true, not_true_eq_false, Nat.reduceEqDiff, Nat.reduceAdd, reduceCtorEq, and_true, true_and, and_false, false_and, false_or, or_false, true_and, and_true, ni_divL, ni_subL, nI_add, pk_mul, nI_leI, nI_ltI, nI_eq, vp_in_eq, nI_clamp, ↓ni_tst, ni_tst2, fa_and, fa_or, ni_bit1, ni_1s, nI_l, mb_eq0, mb_ne0, mb_eq1, gd_tt, gd_t, bft, e1, hne]
    · have hb : ¬ nI h = bt := fun q => by rw [(hbt h hhn).mp q] at hs; cases hs
      -- one colour is tried
      have inn : ∀ j ρ, j < k → fr (on 16) σ ρ → (∀ x, x < h → ρ.1 16 x = σ.1 16 x) → (∀ e, e < j → ¬ Ex B n s k (h + 1) (un κ h e)) → ∃ b, f_42_42 tT (f_42 tT d) ρ 0 (nI h) (nI k) bt (nI j) (nI 1) (nI 0) = some b ∧ ((∃ υ, b = .inl (nI (j + 1), υ) ∧ fr (on 16) σ υ ∧ (∀ x, x < h → υ.1 16 x = σ.1 16 x) ∧ ¬ Ex B n s k (h + 1) (un κ h j)) ∨ ∃ υ, b = .inr (nI 1, υ) ∧ dyT σ B n s k h κ υ) := by
        intro j ρ hj hf hent hprev
        have hmr := mo_on (by decide) hf hmo
        obtain ⟨hR, -, e1', -⟩ := id hmr
        have hBh := wf_2048 hw h
        unfold f_42_42
        refine lp_rel (F := fun q : Int32 × Int32 => F_42_42 tT (f_42 tT d) ρ 0 (nI h) (nI k) bt (nI j) q.1 q.2) (fun i q => (q = (nI 1, nI i) ∧ ∀ x, x < i → s.testBit x = true → (B h).testBit x = true → κ x ≠ j) ∨ (q = (nI 0, nI i) ∧ ∃ x, x < h ∧ s.testBit x = true ∧ (B h).testBit x = true ∧ κ x = j)) (fun b => (∃ υ, b = .inl (nI (j + 1), υ) ∧ fr (on 16) σ υ ∧ (∀ x, x < h → υ.1 16 x = σ.1 16 x) ∧ ¬ Ex B n s k (h + 1) (un κ h j)) ∨ ∃ υ, b = .inr (nI 1, υ) ∧ dyT σ B n s k h κ υ) h (fun i q hi hI => ?_) 0 (nI 1, nI 0) (by omega) (Or.inl ⟨rfl, fun x hx => absurd hx (by omega)⟩)
        rcases hI with ⟨rfl, hok⟩ | ⟨rfl, x, x1, x2, x3, x4⟩
        · by_cases hih : i = h
          · subst hih
            right
            have hp1 := pc_up hw hp hj hok
            have hf1 : fr (on 16) σ (px_wi ρ 16 i (nI j)) := fr_wi hf _ (on_t _ _)
            have hrow : ∀ x, x < i + 1 → s.testBit x = true → (px_wi ρ 16 i (nI j)).1 16 x = nI (un κ i j x) := fun x hx hsx => by
              show px_up ρ.1 16 i (nI j) 16 x = _
              rw [up_s]
              unfold un
              by_cases hxi : x = i
              · rw [if_pos hxi, if_pos hxi]
              · rw [if_neg hxi, if_neg hxi, hent x (by omega)]; exact hκ x (by omega) hsx
            have hkeep : ∀ υ : px_M, (∀ x, x < i + 1 → υ.1 16 x = (px_wi ρ 16 i (nI j)).1 16 x) → ∀ x, x < i → υ.1 16 x = σ.1 16 x := fun υ hυ x hx => by
              rw [hυ x (by omega)]
              show px_up ρ.1 16 i (nI j) 16 x = _
              rw [up_s, if_neg (by omega)]; exact hent x hx
            rcases ih (i + 1) (by omega) d (by omega) (px_wi ρ 16 i (nI j)) (un κ i j) (mo_on (by decide) hf1 hmo) hp1 hrow with ⟨υ, q1, q2, q3, c, c1, c2, c3, c4⟩ | ⟨υ, q1, q2, q3, q4⟩
            · refine ⟨.inr (nI 1, υ), ?_, Or.inr ⟨υ, rfl, fr_tr hf1 q2, hkeep υ q3, c, fun x hx hsx => ?_, c2, fun y hy hy2 hsy => ?_, c4⟩⟩
              · simp (disch := omega) only [F_42_42, la_0, la_1, la_2, la_3, la_4, la_15, la_16, la_17, la_18, la_19, la_20, la_23, la_24, la_25, la_26, la_27, la_28, la_31, la_35, la_36, la_37, rm_0_1 hR, rm_0_2 hR, rm_0_3 hR, rm_0_4 hR, rm_0_15 hR, rm_0_16 hR, rm_0_17 hR, rm_0_18 hR, rm_0_19 hR, rm_0_20 hR, rm_0_23 hR, rm_0_24 hR, rm_0_25 hR, rm_0_26 hR, rm_0_27 hR, rm_0_28 hR, rm_0_31 hR, rm_0_35 hR, rm_0_36 hR, rm_0_37 hR, q1, gd_tt, oA_arr, px_obj_s, Option.bind_some, Option.map_some, Option.bind_none, eq_self, true_or, or_true, px_av_0, px_av_1, px_av_2, px_av_10, px_av_11, bn, wi_1, wi_2, wl_1, wl_21, wl_22, wr_1, wr_21, wr_22, Sum.elim_inl, Sum.elim_inr, ↓reduceIte, Nat.reduceLT, Nat.reduceLeDiff, not_false_eq_true, not_true_eq_false, Nat.reduceEqDiff, Nat.reduceAdd, reduceCtorEq, and_true, true_and, and_false, false_and, false_or, or_false, true_and, and_true, ni_divL, ni_subL, nI_add, pk_mul, nI_leI, nI_ltI, nI_eq, vp_in_eq, nI_clamp, ↓ni_tst, ni_tst2, fa_and, fa_or, ni_bit1, ni_1s, nI_l, mb_eq0, mb_ne0, mb_eq1, gd_tt, gd_t, bft]
                rw [if_pos (Nat.le_refl _)]
              · have := c1 x (by omega) hsx
                unfold un at this
                rw [if_neg (by omega)] at this
                exact this
              · by_cases hyi : y = i
                · subst hyi
                  intro e he hE
                  have hcy : c y = j := by
                    have := c1 y (by omega) hsy
                    unfold un at this
                    rw [if_pos rfl] at this
                    exact this
                  refine hprev e (by omega) ((Ex_congr (fun x hx hsx => ?_)).mp hE)
                  unfold un
                  by_cases hxy : x = y
                  · rw [if_pos hxy, if_pos hxy]
                  · rw [if_neg hxy, if_neg hxy]
                    have := c1 x (by omega) hsx
                    unfold un at this
                    rw [if_neg hxy] at this
                    exact this
                · exact c3 y (by omega) hy2 hsy
            · refine ⟨.inl (nI (j + 1), υ), ?_, Or.inl ⟨υ, rfl, fr_tr hf1 q2, hkeep υ q3, q4⟩⟩
              simp (disch := omega) only [F_42_42, f_42_128, la_0, la_1, la_2, la_3, la_4, la_15, la_16, la_17, la_18, la_19, la_20, la_23, la_24, la_25, la_26, la_27, la_28, la_31, la_35, la_36, la_37, rm_0_1 hR, rm_0_2 hR, rm_0_3 hR, rm_0_4 hR, rm_0_15 hR, rm_0_16 hR, rm_0_17 hR, rm_0_18 hR, rm_0_19 hR, rm_0_20 hR, rm_0_23 hR, rm_0_24 hR, rm_0_25 hR, rm_0_26 hR, rm_0_27 hR, rm_0_28 hR, rm_0_31 hR, rm_0_35 hR, rm_0_36 hR, rm_0_37 hR, q1, gd_tt, oA_arr, px_obj_s, Option.bind_some, Option.map_some, Option.bind_none, eq_self, true_or, or_true, px_av_0, px_av_1, px_av_2, px_av_10, px_av_11, bn, wi_1, wi_2, wl_1, wl_21, wl_22, wr_1, wr_21, wr_22, Sum.elim_inl, Sum.elim_inr, ↓reduceIte, Nat.reduceLT, Nat.reduceLeDiff, not_false_eq_true, not_true_eq_false, Nat.reduceEqDiff, Nat.reduceAdd, reduceCtorEq, and_true, true_and, and_false, false_and, false_or, or_false, true_and, and_true, ni_divL, ni_subL, nI_add, pk_mul, nI_leI, nI_ltI, nI_eq, vp_in_eq, nI_clamp, ↓ni_tst, ni_tst2, fa_and, fa_or, ni_bit1, ni_1s, nI_l, mb_eq0, mb_ne0, mb_eq1, gd_tt, gd_t, bft]
              rw [if_pos (Nat.le_refl _)]
          · left
            have hin : i < h := by omega
            cases hsi : s.testBit i
            · have hbi : nI i = bt := (hbt i (by omega)).mpr hsi
              refine ⟨(nI 1, nI (i + 1)), ?_, hin, Or.inl ⟨rfl, fun x hx hsx => ?_⟩⟩
              · subst hbi
                simp (disch := omega) only [F_42_42, f_42_85, gd_tt, oA_arr, px_obj_s, Option.bind_some, Option.map_some, Option.bind_none, eq_self, true_or, or_true, px_av_0, px_av_1, px_av_2, px_av_10, px_av_11, bn, wi_1, wi_2, wl_1, wl_21, wl_22, wr_1, wr_21, wr_22, Sum.elim_inl, Sum.elim_inr, ↓reduceIte, Nat.reduceLT, Nat.reduceLeDiff, not_false_eq_true, not_true_eq_false, Nat.reduceEqDiff, Nat.reduceAdd, reduceCtorEq, and_true, true_and, and_false, false_and, false_or, or_false, true_and, and_true, ni_divL, ni_subL, nI_add, pk_mul, nI_leI, nI_ltI, nI_eq, vp_in_eq, nI_clamp, ↓ni_tst, ni_tst2, fa_and, fa_or, ni_bit1, ni_1s, nI_l, mb_eq0, mb_ne0, mb_eq1, gd_tt, gd_t, bft]
                rw [if_neg (by omega)]
              · by_cases hxi : x = i
                · subst hxi; rw [hsi] at hsx; cases hsx
                · exact hok x (by omega) hsx
            · have hbi : ¬ nI i = bt := fun q => by rw [(hbt i (by omega)).mp q] at hsi; cases hsi
              cases hbb : (B h).testBit i
              · refine ⟨(nI 1, nI (i + 1)), ?_, hin, Or.inl ⟨rfl, fun x hx hsx hbx => ?_⟩⟩
                · simp (disch := omega) only [F_42_42, f_42_85, la_0, la_1, la_2, la_3, la_4, la_15, la_16, la_17, la_18, la_19, la_20, la_23, la_24, la_25, la_26, la_27, la_28, la_31, la_35, la_36, la_37, gd_tt, oA_arr, px_obj_s, Option.bind_some, Option.map_some, Option.bind_none, eq_self, true_or, or_true, px_av_0, px_av_1, px_av_2, px_av_10, px_av_11, bn, wi_1, wi_2, wl_1, wl_21, wl_22, wr_1, wr_21, wr_22, Sum.elim_inl, Sum.elim_inr, ↓reduceIte, Nat.reduceLT, Nat.reduceLeDiff, not_false_eq_true, not_true_eq_false, Nat.reduceEqDiff, Nat.reduceAdd, reduceCtorEq, and_true, true_and, and_false, false_and, false_or, or_false, true_and, and_true, ni_divL, ni_subL, nI_add, pk_mul, nI_leI, nI_ltI, nI_eq, vp_in_eq, nI_clamp, ↓ni_tst, ni_tst2, fa_and, fa_or, ni_bit1, ni_1s, nI_l, mb_eq0, mb_ne0, mb_eq1, gd_tt, gd_t, bft, hbi, e_near hmr, e_isIn, hbb]
                  rw [if_neg (by omega)]
                · by_cases hxi : x = i
                  · subst hxi; rw [hbb] at hbx; cases hbx
                  · exact hok x (by omega) hsx hbx
              · have hki := hp.1 i hin hsi
                have hrow : ρ.1 16 i = nI (κ i) := by rw [hent i hin]; exact hκ i hin hsi
                by_cases hkj : κ i = j
                · refine ⟨(nI 0, nI (i + 1)), ?_, hin, Or.inr ⟨rfl, i, hin, hsi, hbb, hkj⟩⟩
                  simp (disch := omega) only [F_42_42, f_42_73, la_0, la_1, la_2, la_3, la_4, la_15, la_16, la_17, la_18, la_19, la_20, la_23, la_24, la_25, la_26, la_27, la_28, la_31, la_35, la_36, la_37, rm_0_1 hR, rm_0_2 hR, rm_0_3 hR, rm_0_4 hR, rm_0_15 hR, rm_0_16 hR, rm_0_17 hR, rm_0_18 hR, rm_0_19 hR, rm_0_20 hR, rm_0_23 hR, rm_0_24 hR, rm_0_25 hR, rm_0_26 hR, rm_0_27 hR, rm_0_28 hR, rm_0_31 hR, rm_0_35 hR, rm_0_36 hR, rm_0_37 hR, gd_tt, oA_arr, px_obj_s, Option.bind_some, Option.map_some, Option.bind_none, eq_self, true_or, or_true, px_av_0, px_av_1, px_av_2, px_av_10, px_av_11, bn, wi_1, wi_2, wl_1, wl_21, wl_22, wr_1, wr_21, wr_22, Sum.elim_inl, Sum.elim_inr, ↓reduceIte, Nat.reduceLT, Nat.reduceLeDiff, not_false_eq_true, not_true_eq_false, Nat.reduceEqDiff, Nat.reduceAdd, reduceCtorEq, and_true, true_and, and_false, false_and, false_or, or_false, true_and, and_true, ni_divL, ni_subL, nI_add, pk_mul, nI_leI, nI_ltI, nI_eq, vp_in_eq, nI_clamp, ↓ni_tst, ni_tst2, fa_and, fa_or, ni_bit1, ni_1s, nI_l, mb_eq0, mb_ne0, mb_eq1, gd_tt, gd_t, bft, hbi, e_near hmr, e_isIn, hbb, hrow]
                  rw [if_neg (by omega), if_pos hkj]
                · refine ⟨(nI 1, nI (i + 1)), ?_, hin, Or.inl ⟨rfl, fun x hx hsx hbx => ?_⟩⟩
                  · simp (disch := omega) only [F_42_42, f_42_73, f_42_85, la_0, la_1, la_2, la_3, la_4, la_15, la_16, la_17, la_18, la_19, la_20, la_23, la_24, la_25, la_26, la_27, la_28, la_31, la_35, la_36, la_37, rm_0_1 hR, rm_0_2 hR, rm_0_3 hR, rm_0_4 hR, rm_0_15 hR, rm_0_16 hR, rm_0_17 hR, rm_0_18 hR, rm_0_19 hR, rm_0_20 hR, rm_0_23 hR, rm_0_24 hR, rm_0_25 hR, rm_0_26 hR, rm_0_27 hR, rm_0_28 hR, rm_0_31 hR, rm_0_35 hR, rm_0_36 hR, rm_0_37 hR, gd_tt, oA_arr, px_obj_s, Option.bind_some, Option.map_some, Option.bind_none, eq_self, true_or, or_true, px_av_0, px_av_1, px_av_2, px_av_10, px_av_11, bn, wi_1, wi_2, wl_1, wl_21, wl_22, wr_1, wr_21, wr_22, Sum.elim_inl, Sum.elim_inr, ↓reduceIte, Nat.reduceLT, Nat.reduceLeDiff, not_false_eq_true, not_true_eq_false, Nat.reduceEqDiff, Nat.reduceAdd, reduceCtorEq, and_true, true_and, and_false, false_and, false_or, or_false, true_and, and_true, ni_divL, ni_subL, nI_add, pk_mul, nI_leI, nI_ltI, nI_eq, vp_in_eq, nI_clamp, ↓ni_tst, ni_tst2, fa_and, fa_or, ni_bit1, ni_1s, nI_l, mb_eq0, mb_ne0, mb_eq1, gd_tt, gd_t, bft, hbi, e_near hmr, e_isIn, hbb, hrow]
                    rw [if_neg (by omega), if_neg hkj]
                  · by_cases hxi : x = i
                    · subst hxi; exact hkj
                    · exact hok x (by omega) hsx hbx
        · right
          have hbad := Ex_bad (k := k) (κ := κ) hhn hs x1 x2 x3
          rw [x4] at hbad
          refine ⟨.inl (nI (j + 1), ρ), ?_, Or.inl ⟨ρ, rfl, hf, hent, hbad⟩⟩
          by_cases hih : h ≤ i
          · simp (disch := omega) only [F_42_42, f_42_128, gd_tt, oA_arr, px_obj_s, Option.bind_some, Option.map_some, Option.bind_none, eq_self, true_or, or_true, px_av_0, px_av_1, px_av_2, px_av_10, px_av_11, bn, wi_1, wi_2, wl_1, wl_21, wl_22, wr_1, wr_21, wr_22, Sum.elim_inl, Sum.elim_inr, ↓reduceIte, Nat.reduceLT, Nat.reduceLeDiff, not_false_eq_true, not_true_eq_false, Nat.reduceEqDiff, Nat.reduceAdd, reduceCtorEq, and_true, true_and, and_false, false_and, false_or, or_false, true_and, and_true, ni_divL, ni_subL, nI_add, pk_mul, nI_leI, nI_ltI, nI_eq, vp_in_eq, nI_clamp, ↓ni_tst, ni_tst2, fa_and, fa_or, ni_bit1, ni_1s, nI_l, mb_eq0, mb_ne0, mb_eq1, gd_tt, gd_t, bft, hih]
          · simp (disch := omega) only [F_42_42, f_42_128, gd_tt, oA_arr, px_obj_s, Option.bind_some, Option.map_some, Option.bind_none, eq_self, true_or, or_true, px_av_0, px_av_1, px_av_2, px_av_10, px_av_11, bn, wi_1, wi_2, wl_1, wl_21, wl_22, wr_1, wr_21, wr_22, Sum.elim_inl, Sum.elim_inr, ↓reduceIte, Nat.reduceLT, Nat.reduceLeDiff, not_false_eq_true, not_true_eq_false, Nat.reduceEqDiff, Nat.reduceAdd, reduceCtorEq, and_true, true_and, and_false, false_and, false_or, or_false, true_and, and_true, ni_divL, ni_subL, nI_add, pk_mul, nI_leI, nI_ltI, nI_eq, vp_in_eq, nI_clamp, ↓ni_tst, ni_tst2, fa_and, fa_or, ni_bit1, ni_1s, nI_l, mb_eq0, mb_ne0, mb_eq1, gd_tt, gd_t, bft, hih]
      have loop : ∃ b, f_42_30 tT (f_42 tT d) 0 (nI h) (nI k) bt (nI 0) σ = some b ∧ ((∃ υ, b = (nI 1, υ) ∧ dyT σ B n s k h κ υ) ∨ ∃ υ, b = (nI 0, υ) ∧ dyF σ B n s k h κ υ) := by
        unfold f_42_30
        refine lp_rel (F := fun q : Int32 × px_M => F_42_30 tT (f_42 tT d) 0 (nI h) (nI k) bt q.1 q.2) (fun j q => q.1 = nI j ∧ fr (on 16) σ q.2 ∧ (∀ x, x < h → q.2.1 16 x = σ.1 16 x) ∧ ∀ e, e < j → ¬ Ex B n s k (h + 1) (un κ h e)) (fun b => (∃ υ, b = (nI 1, υ) ∧ dyT σ B n s k h κ υ) ∨ ∃ υ, b = (nI 0, υ) ∧ dyF σ B n s k h κ υ) k (fun j q hj hI => ?_) 0 (nI 0, σ) (by omega) ⟨rfl, fr_rf _ _, fun _ _ => rfl, fun e he => absurd he (by omega)⟩
        obtain ⟨x, ρ⟩ := q
        obtain ⟨hx, g1, g2, g3⟩ := hI
        dsimp only at hx g1 g2 g3
        subst hx
        by_cases hjk : j = k
        · subst hjk
          right
          refine ⟨(nI 0, ρ), ?_, Or.inr ⟨ρ, rfl, g1, g2, fun q => ?_⟩⟩
          · simp (disch := omega) only [F_42_30, gd_tt, oA_arr, px_obj_s, Option.bind_some, Option.map_some, Option.bind_none, eq_self, true_or, or_true, px_av_0, px_av_1, px_av_2, px_av_10, px_av_11, bn, wi_1, wi_2, wl_1, wl_21, wl_22, wr_1, wr_21, wr_22, Sum.elim_inl, Sum.elim_inr, ↓reduceIte, Nat.reduceLT, Nat.reduceLeDiff, not_false_eq_true, not_true_eq_false, Nat.reduceEqDiff, Nat.reduceAdd, reduceCtorEq, and_true, true_and, and_false, false_and, false_or, or_false, true_and, and_true, ni_divL, ni_subL, nI_add, pk_mul, nI_leI, nI_ltI, nI_eq, vp_in_eq, nI_clamp, ↓ni_tst, ni_tst2, fa_and, fa_or, ni_bit1, ni_1s, nI_l, mb_eq0, mb_ne0, mb_eq1, gd_tt, gd_t, bft]
            rw [if_pos (by omega)]
          · obtain ⟨e, e1, e2⟩ := (Ex_step hhn hs).mp q
            exact g3 e e1 e2
        · obtain ⟨b, q1, q2⟩ := inn j ρ (by omega) g1 g2 g3
          have hF : F_42_30 tT (f_42 tT d) 0 (nI h) (nI k) bt (nI j) ρ = some b := by
            simp (disch := omega) only [F_42_30, q1, gd_tt, oA_arr, px_obj_s, Option.bind_some, Option.map_some, Option.bind_none, eq_self, true_or, or_true, px_av_0, px_av_1, px_av_2, px_av_10, px_av_11, bn, wi_1, wi_2, wl_1, wl_21, wl_22, wr_1, wr_21, wr_22, Sum.elim_inl, Sum.elim_inr, ↓reduceIte, Nat.reduceLT, Nat.reduceLeDiff, not_false_eq_true, not_true_eq_false, Nat.reduceEqDiff, Nat.reduceAdd, reduceCtorEq, and_true, true_and, and_false, false_and, false_or, or_false, true_and, and_true, ni_divL, ni_subL, nI_add, pk_mul, nI_leI, nI_ltI, nI_eq, vp_in_eq, nI_clamp, ↓ni_tst, ni_tst2, fa_and, fa_or, ni_bit1, ni_1s, nI_l, mb_eq0, mb_ne0, mb_eq1, gd_tt, gd_t, bft]
            rw [if_neg (by omega)]
          rcases q2 with ⟨υ, rfl, r1, r2, r3⟩ | ⟨υ, rfl, r1⟩
          · left
            refine ⟨(nI (j + 1), υ), hF, by omega, rfl, r1, r2, fun e he => ?_⟩
            by_cases hej : e = j
            · subst hej; exact r3
            · exact g3 e (by omega)
          · right
            exact ⟨_, hF, Or.inl ⟨υ, rfl, r1⟩⟩
      obtain ⟨b, q1, q2⟩ := loop
      rcases q2 with ⟨υ, rfl, r1⟩ | ⟨υ, rfl, r1⟩
      · left
        refine ⟨υ, ?_, r1⟩
        simp (disch := omega) only [F_42, la_0, la_1, la_2, la_3, la_4, la_15, la_16, la_17, la_18, la_19, la_20, la_23, la_24, la_25, la_26, la_27, la_28, la_31, la_35, la_36, la_37, rm_0_1 hR, rm_0_2 hR, rm_0_3 hR, rm_0_4 hR, rm_0_15 hR, rm_0_16 hR, rm_0_17 hR, rm_0_18 hR, rm_0_19 hR, rm_0_20 hR, rm_0_23 hR, rm_0_24 hR, rm_0_25 hR, rm_0_26 hR, rm_0_27 hR, rm_0_28 hR, rm_0_31 hR, rm_0_35 hR, rm_0_36 hR, rm_0_37 hR, q1, gd_tt, oA_arr, px_obj_s, Option.bind_some, Option.map_some, Option.bind_none, eq_self, true_or, or_true, px_av_0, px_av_1, px_av_2, px_av_10, px_av_11, bn, wi_1, wi_2, wl_1, wl_21, wl_22, wr_1, wr_21, wr_22, Sum.elim_inl, Sum.elim_inr, ↓reduceIte, Nat.reduceLT, Nat.reduceLeDiff, not_false_eq_true, not_true_eq_false, Nat.reduceEqDiff, Nat.reduceAdd, reduceCtorEq, and_true, true_and, and_false, false_and, false_or, or_false, true_and, and_true, ni_divL, ni_subL, nI_add, pk_mul, nI_leI, nI_ltI, nI_eq, vp_in_eq, nI_clamp, ↓ni_tst, ni_tst2, fa_and, fa_or, ni_bit1, ni_1s, nI_l, mb_eq0, mb_ne0, mb_eq1, gd_tt, gd_t, bft, e1, hne, hb]
      · right
        refine ⟨υ, ?_, r1⟩
        simp (disch := omega) only [F_42, la_0, la_1, la_2, la_3, la_4, la_15, la_16, la_17, la_18, la_19, la_20, la_23, la_24, la_25, la_26, la_27, la_28, la_31, la_35, la_36, la_37, rm_0_1 hR, rm_0_2 hR, rm_0_3 hR, rm_0_4 hR, rm_0_15 hR, rm_0_16 hR, rm_0_17 hR, rm_0_18 hR, rm_0_19 hR, rm_0_20 hR, rm_0_23 hR, rm_0_24 hR, rm_0_25 hR, rm_0_26 hR, rm_0_27 hR, rm_0_28 hR, rm_0_31 hR, rm_0_35 hR, rm_0_36 hR, rm_0_37 hR, q1, gd_tt, oA_arr, px_obj_s, Option.bind_some, Option.map_some, Option.bind_none, eq_self, true_or, or_true, px_av_0, px_av_1, px_av_2, px_av_10, px_av_11, bn, wi_1, wi_2, wl_1, wl_21, wl_22, wr_1, wr_21, wr_22, Sum.elim_inl, Sum.elim_inr, ↓reduceIte, Nat.reduceLT, Nat.reduceLeDiff, not_false_eq_true, not_true_eq_false, Nat.reduceEqDiff, Nat.reduceAdd, reduceCtorEq, and_true, true_and, and_false, false_and, false_or, or_false, true_and, and_true, ni_divL, ni_subL, nI_add, pk_mul, nI_leI, nI_ltI, nI_eq, vp_in_eq, nI_clamp, ↓ni_tst, ni_tst2, fa_and, fa_or, ni_bit1, ni_1s, nI_l, mb_eq0, mb_ne0, mb_eq1, gd_tt, gd_t, bft, e1, hne, hb]
end
