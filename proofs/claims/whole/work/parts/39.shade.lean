/-! the first colours, as the class paints them -/
/-- those below h who have a colour -/
def wr (κ : Nat → Nat) (h c : Nat) : Nat := bs (fun x => decide (κ x = c)) h
theorem wr_tb (κ : Nat → Nat) (h c x : Nat) : (wr κ h c).testBit x = true ↔ x < h ∧ κ x = c := by
  unfold wr
  rw [bs_tb, Bool.and_eq_true, decide_eq_true_eq, decide_eq_true_eq]
section
variable {σ τ : px_M} {P t n : Nat} {B W : Nat → Nat} {k : Nat}
theorem wr_un (κ : Nat → Nat) (h j : Nat) : wr (un κ h j) (h + 1) = wU (fun c => wr κ h c) j h := by
  funext c
  apply tb_eq
  intro x
  rw [wr_tb]
  unfold wU un
  by_cases hcj : c = j
  · subst hcj
    rw [if_pos rfl, Nat.testBit_or, Bool.or_eq_true, wr_tb, Nat.testBit_two_pow, decide_eq_true_eq]
    by_cases hxh : x = h
    · subst hxh
      rw [if_pos rfl]
      exact ⟨fun _ => Or.inr rfl, fun _ => ⟨by omega, rfl⟩⟩
    · rw [if_neg hxh]
      constructor
      · rintro ⟨q1, q2⟩; exact Or.inl ⟨by omega, q2⟩
      · rintro (⟨q1, q2⟩ | q)
        · exact ⟨by omega, q2⟩
        · exact absurd q.symm hxh
  · rw [if_neg hcj, wr_tb]
    by_cases hxh : x = h
    · subst hxh
      rw [if_pos rfl]
      constructor
      · rintro ⟨-, q⟩; exact absurd q.symm hcj
      · rintro ⟨q, -⟩; omega
    · rw [if_neg hxh]
      exact ⟨fun q => ⟨by omega, q.2⟩, fun q => ⟨by omega, q.2⟩⟩
/-- the colours in use are the first ones -/
def seg (κ : Nat → Nat) (h u : Nat) : Prop := (∀ x, x < h → κ x < u) ∧ ∀ c, c < u → ∃ x, x < h ∧ κ x = c
/-- colours that nobody has do alike -/
theorem Ex_swap {s h j e u : Nat} {κ : Nat → Nat} (hs : s.testBit h = true) (hh : h < n) (hu : ∀ x, x < h → κ x < u) (hj : u ≤ j) (he : u ≤ e) (hjk : j < k) (hE : Ex B n s k (h + 1) (un κ h e)) : Ex B n s k (h + 1) (un κ h j) := by
  obtain ⟨c, h1, h2, h3⟩ := hE
  have hch : c h = e := by
    have := h1 h (by omega) hs
    unfold un at this
    rw [if_pos rfl] at this
    exact this
  have hek : e < k := by rw [← hch]; exact h2 h hh hs
  refine ⟨fun x => if c x = e then j else if c x = j then e else c x, fun x hx hsx => ?_, fun x hx hsx => ?_, fun x y hx hy hsx hsy hxy => ?_⟩
  · unfold un
    by_cases hxh : x = h
    · subst hxh
      simp [hch]
    · have := h1 x hx hsx
      unfold un at this
      rw [if_neg hxh] at this
      have hlt := hu x (by omega)
      rw [if_neg hxh]
      dsimp only
      rw [if_neg (by omega), if_neg (by omega)]
      exact this
  · have := h2 x hx hsx
    dsimp only
    repeat' split
    all_goals omega
  · have := h3 x y hx hy hsx hsy hxy
    dsimp only
    repeat' split
    all_goals omega
theorem c_from (hd1 : t ≠ P + 1) (hd2 : t ≠ P) (hDP : DR (P + 1) 2 = false) (hk : k ≤ 11) : ∀ m h, h + m = n → ∀ d, m < d → ∀ (σ : px_M) (κ : Nat → Nat) (u : Nat), pt σ P t n B (fun c => wr κ h c) → pc B (2 ^ n - 1) k h κ → seg κ h u → (∃ υ, f_8007 tT d σ P (nI h) (nI k) = some (nI 1, υ) ∧ fr (on (P + 1)) σ υ ∧ ∃ c, (∀ x, x < h → c x = κ x) ∧ pc B (2 ^ n - 1) k n c ∧ GF B n (2 ^ n - 1) k h c ∧ ∀ e, e < 11 → υ.1 (P + 1) e = nI (wr c n e)) ∨ ∃ υ, f_8007 tT d σ P (nI h) (nI k) = some (nI 0, υ) ∧ fr (on (P + 1)) σ υ ∧ (∀ e, e < 11 → υ.1 (P + 1) e = nI (wr κ h e)) ∧ ¬ Ex B n (2 ^ n - 1) k h κ := by
  intro m
  induction m with
  | zero =>
    intro h hm d hd σ κ u hp hpc hsg
    obtain ⟨d, rfl⟩ : ∃ d', d = d' + 1 := ⟨d - 1, by omega⟩
    obtain ⟨p1, p2, p3, p4, hc, p6, p7⟩ := id hp
    obtain ⟨l1, l2, hr, hw, h1, hnb⟩ := hc
    have hn := hw.1
    have hh : h = n := by omega
    subst hh
    left
    refine ⟨σ, ?_, fr_rf _ _, κ, fun _ _ => rfl, hpc, fun y hy hy2 => by omega, p6⟩
    rw [f_8007_S]
    simp (disch := omega) only [F_8007, p1, p4, l1, h1, gd_tt, oA_arr, px_obj_s, Option.bind_some, Option.map_some, Option.bind_none, eq_self, true_or, or_true, px_av_0, px_av_1, px_av_2, px_av_10, px_av_11, bn, wi_1, wi_2, wl_1, wl_21, wl_22, wr_1, wr_21, wr_22, Sum.elim_inl, Sum.elim_inr, ↓reduceIte, Nat.reduceLT, Nat.reduceLeDiff, not_false_eq_true, not_true_eq_false, Nat.reduceEqDiff, Nat.reduceAdd, reduceCtorEq, and_true, true_and, and_false, false_and, false_or, or_false, true_and, and_true, ni_divL, ni_subL, nI_add, pk_mul, nI_leI, nI_ltI, nI_eq, vp_in_eq, nI_clamp, ↓ni_tst, ni_tst2, fa_and, fa_or, ni_bit1, ni_1s, nI_l, mb_eq0, mb_ne0, mb_eq1, gd_tt, gd_t, bft]
    rw [if_neg (by omega)]
  | succ m ih =>
    intro h hm d hd σ κ u hp hpc hsg
    obtain ⟨d, rfl⟩ : ∃ d', d = d' + 1 := ⟨d - 1, by omega⟩
    obtain ⟨p1, p2, p3, p4, hc, p6, p7⟩ := id hp
    obtain ⟨l1, l2, hr, hw, h1, hnb⟩ := hc
    have hn := hw.1
    have hhn : h < n := by omega
    have hsh : (2 ^ n - 1).testBit h = true := by rw [tb_all, decide_eq_true hhn]
    have hall : ∀ x, x < n → (2 ^ n - 1).testBit x = true := fun x hx => by rw [tb_all, decide_eq_true hx]
    have loop : ∃ b, f_8007_15 tT (f_8007 tT d) P (nI h) (nI k) (nI 0) σ = some b ∧ ((∃ υ, b = (nI 1, υ) ∧ fr (on (P + 1)) σ υ ∧ ∃ c, (∀ x, x < h → c x = κ x) ∧ pc B (2 ^ n - 1) k n c ∧ GF B n (2 ^ n - 1) k h c ∧ ∀ e, e < 11 → υ.1 (P + 1) e = nI (wr c n e)) ∨ ∃ υ, b = (nI 0, υ) ∧ fr (on (P + 1)) σ υ ∧ (∀ e, e < 11 → υ.1 (P + 1) e = nI (wr κ h e)) ∧ ¬ Ex B n (2 ^ n - 1) k h κ) := by
      unfold f_8007_15
      refine lp_rel (F := fun q : Int32 × px_M => F_8007_15 tT (f_8007 tT d) P (nI h) (nI k) q.1 q.2) (fun j q => q.1 = nI j ∧ fr (on (P + 1)) σ q.2 ∧ (∀ e, e < 11 → q.2.1 (P + 1) e = nI (wr κ h e)) ∧ j ≤ u ∧ ∀ e, e < j → ¬ Ex B n (2 ^ n - 1) k (h + 1) (un κ h e)) (fun b => (∃ υ, b = (nI 1, υ) ∧ fr (on (P + 1)) σ υ ∧ ∃ c, (∀ x, x < h → c x = κ x) ∧ pc B (2 ^ n - 1) k n c ∧ GF B n (2 ^ n - 1) k h c ∧ ∀ e, e < 11 → υ.1 (P + 1) e = nI (wr c n e)) ∨ ∃ υ, b = (nI 0, υ) ∧ fr (on (P + 1)) σ υ ∧ (∀ e, e < 11 → υ.1 (P + 1) e = nI (wr κ h e)) ∧ ¬ Ex B n (2 ^ n - 1) k h κ) k (fun j q hj hI => ?_) 0 (nI 0, σ) (by omega) ⟨rfl, fr_rf _ _, p6, by omega, fun e he => absurd he (by omega)⟩
      obtain ⟨x, ρ⟩ := q
      obtain ⟨hx, g1, g2, g4, g3⟩ := hI
      dsimp only at hx g1 g2 g4 g3
      subst hx
      have hpr := pt_on (V := fun c => wr κ h c) hd1 hd2 hDP g1 hp g2 p7
      obtain ⟨r1, r2, r3, r4, ⟨s1, s2, sr, -, sn, snb⟩, r6, r7⟩ := id hpr
      by_cases hjk : j = k
      · right
        refine ⟨(nI 0, ρ), ?_, Or.inr ⟨ρ, rfl, g1, g2, fun q => ?_⟩⟩
        · simp (disch := omega) only [F_8007_15, gd_tt, oA_arr, px_obj_s, Option.bind_some, Option.map_some, Option.bind_none, eq_self, true_or, or_true, px_av_0, px_av_1, px_av_2, px_av_10, px_av_11, bn, wi_1, wi_2, wl_1, wl_21, wl_22, wr_1, wr_21, wr_22, Sum.elim_inl, Sum.elim_inr, ↓reduceIte, Nat.reduceLT, Nat.reduceLeDiff, not_false_eq_true, not_true_eq_false, Nat.reduceEqDiff, Nat.reduceAdd, reduceCtorEq, and_true, true_and, and_false, false_and, false_or, or_false, true_and, and_true, ni_divL, ni_subL, nI_add, pk_mul, nI_leI, nI_ltI, nI_eq, vp_in_eq, nI_clamp, ↓ni_tst, ni_tst2, fa_and, fa_or, ni_bit1, ni_1s, nI_l, mb_eq0, mb_ne0, mb_eq1, gd_tt, gd_t, bft]
          rw [if_pos (by omega)]
        · obtain ⟨e, e1, e2⟩ := (Ex_step hhn hsh).mp q
          exact g3 e (by omega) e2
      · have hj11 : ¬ 11 ≤ j := by omega
        have hkj : ¬ k ≤ j := by omega
        have hWj : wr κ h j < 2048 := p7 j
        have hA : wr κ h j &&& B h < 2048 := and_lt hWj
        by_cases hz : wr κ h j &&& B h = 0
        · have hok : ∀ x, x < h → (2 ^ n - 1).testBit x = true → (B h).testBit x = true → κ x ≠ j := fun x hx _ hbx q => and_0iff.mp hz x ⟨(wr_tb κ h j x).mpr ⟨hx, q⟩, hbx⟩
          have hpc1 := pc_up hw hpc (show j < k by omega) hok
          have hsg1 : seg (un κ h j) (h + 1) (if j = u then u + 1 else u) := by
            refine ⟨fun x hx => ?_, fun c hc => ?_⟩
            · unfold un
              by_cases hxh : x = h
              · rw [if_pos hxh]; split <;> omega
              · rw [if_neg hxh]
                have := hsg.1 x (by omega)
                split <;> omega
            · by_cases hcu : c < u
              · obtain ⟨x, x1, x2⟩ := hsg.2 c hcu
                refine ⟨x, by omega, ?_⟩
                unfold un
                rw [if_neg (by omega)]; exact x2
              · refine ⟨h, by omega, ?_⟩
                unfold un
                rw [if_pos rfl]
                split at hc <;> omega
          have hWU : ∀ c, wU (fun c => wr κ h c) j h c < 2048 := fun c => by
            unfold wU
            split
            · exact or_lt hWj (pw_lt (by omega))
            · exact p7 c
          have hf1 : fr (on (P + 1)) σ (px_wi ρ (P + 1) j (nI (wr κ h j ||| 2 ^ h))) := fr_wi g1 _ (on_t _ _)
          have hrow1 : ∀ c, c < 11 → (px_wi ρ (P + 1) j (nI (wr κ h j ||| 2 ^ h))).1 (P + 1) c = nI (wr (un κ h j) (h + 1) c) := fun c hc => by
            show px_up ρ.1 (P + 1) j _ (P + 1) c = _
            rw [up_s, wr_un]
            unfold wU
            by_cases hcj : c = j
            · rw [if_pos hcj, if_pos hcj]
            · rw [if_neg hcj, if_neg hcj]; exact g2 c hc
          have hpt1 : pt (px_wi ρ (P + 1) j (nI (wr κ h j ||| 2 ^ h))) P t n B (fun c => wr (un κ h j) (h + 1) c) := pt_on hd1 hd2 hDP hf1 hp hrow1 (fun c => by rw [wr_un]; exact hWU c)
          have hvu : ∀ b : Int32, (b = nI 0 ∨ b = nI 1) → ∃ F : Int32 → Option ((Int32 × px_M) ⊕ (Int32 × px_M)), True := fun _ _ => ⟨fun _ => none, trivial⟩
          have hunu : wr κ h j = 0 ↔ j = u := by
            constructor
            · intro q
              rcases Nat.lt_or_ge j u with h5 | h5
              · obtain ⟨x, x1, x2⟩ := hsg.2 j h5
                have : (wr κ h j).testBit x = true := (wr_tb κ h j x).mpr ⟨x1, x2⟩
                rw [q] at this
                simp at this
              · omega
            · intro q
              apply tb_eq
              intro x
              rw [wr_tb, Nat.zero_testBit]
              constructor
              · rintro ⟨x1, x2⟩
                have := hsg.1 x x1
                omega
              · intro z; cases z
          rcases ih (h + 1) (by omega) d (by omega) _ (un κ h j) _ hpt1 hpc1 hsg1 with ⟨υ, q1, q2, c, c1, c2, c3, c4⟩ | ⟨υ, q1, q2, q3, q4⟩
          · right
            refine ⟨(nI 1, υ), ?_, Or.inl ⟨υ, rfl, fr_tr hf1 q2, c, fun x hx => ?_, c2, fun y hy hy2 hsy => ?_, c4⟩⟩
            · by_cases hju : j = u
              · have := hunu.mpr hju
                rw [this] at q1 hz
                simp (disch := omega) only [F_8007_15, f_8007_64, p1, p2, r3, r4, s1, s2, sr, gd_tt, oA_arr, px_obj_s, Option.bind_some, Option.map_some, Option.bind_none, eq_self, true_or, or_true, px_av_0, px_av_1, px_av_2, px_av_10, px_av_11, bn, wi_1, wi_2, wl_1, wl_21, wl_22, wr_1, wr_21, wr_22, Sum.elim_inl, Sum.elim_inr, ↓reduceIte, Nat.reduceLT, Nat.reduceLeDiff, not_false_eq_true, not_true_eq_false, Nat.reduceEqDiff, Nat.reduceAdd, reduceCtorEq, and_true, true_and, and_false, false_and, false_or, or_false, true_and, and_true, ni_divL, ni_subL, nI_add, pk_mul, nI_leI, nI_ltI, nI_eq, vp_in_eq, nI_clamp, ↓ni_tst, ni_tst2, fa_and, fa_or, ni_bit1, ni_1s, nI_l, mb_eq0, mb_ne0, mb_eq1, gd_tt, gd_t, bft, g2, snb, this, hz, q1, hkj, hj11]
              · have hnz : ¬ wr κ h j = 0 := fun q => hju (hunu.mp q)
                simp (disch := omega) only [F_8007_15, f_8007_64, p1, p2, r3, r4, s1, s2, sr, gd_tt, oA_arr, px_obj_s, Option.bind_some, Option.map_some, Option.bind_none, eq_self, true_or, or_true, px_av_0, px_av_1, px_av_2, px_av_10, px_av_11, bn, wi_1, wi_2, wl_1, wl_21, wl_22, wr_1, wr_21, wr_22, Sum.elim_inl, Sum.elim_inr, ↓reduceIte, Nat.reduceLT, Nat.reduceLeDiff, not_false_eq_true, not_true_eq_false, Nat.reduceEqDiff, Nat.reduceAdd, reduceCtorEq, and_true, true_and, and_false, false_and, false_or, or_false, true_and, and_true, ni_divL, ni_subL, nI_add, pk_mul, nI_leI, nI_ltI, nI_eq, vp_in_eq, nI_clamp, ↓ni_tst, ni_tst2, fa_and, fa_or, ni_bit1, ni_1s, nI_l, mb_eq0, mb_ne0, mb_eq1, gd_tt, gd_t, bft, g2, snb, hnz, hz, q1, hkj, hj11]
            · have := c1 x (by omega)
              unfold un at this
              rw [if_neg (by omega)] at this
              exact this
            · by_cases hyh : y = h
              · subst hyh
                intro e he hE
                have hcy : c y = j := by
                  have := c1 y (by omega)
                  unfold un at this
                  rw [if_pos rfl] at this
                  exact this
                refine g3 e (by omega) ((Ex_congr (fun x hx hsx => ?_)).mp hE)
                unfold un
                by_cases hxy : x = y
                · rw [if_pos hxy, if_pos hxy]
                · rw [if_neg hxy, if_neg hxy]
                  have := c1 x (by omega)
                  unfold un at this
                  rw [if_neg hxy] at this
                  exact this
              · exact c3 y (by omega) hy2 hsy
          · have hwh : (wr κ h j).testBit h = false := by
              cases hb : (wr κ h j).testBit h with
              | false => rfl
              | true => have := ((wr_tb κ h j h).mp hb).1; omega
            have hback : nd (wr κ h j ||| 2 ^ h) (2 ^ h) = wr κ h j := by
              apply Nat.eq_of_testBit_eq
              intro i
              rw [nd_tb (or_lt hWj (pw_lt (by omega))), Nat.testBit_or, Nat.testBit_two_pow]
              by_cases hih : h = i
              · subst hih; simp [hwh]
              · simp [hih]
            have hvj : υ.1 (P + 1) j = nI (wr κ h j ||| 2 ^ h) := by
              rw [q3 j (by omega), wr_un]
              unfold wU
              rw [if_pos rfl]
            have hur : υ.2.2 P 0 = some (P + 1) := by
              rw [q2.2.2 P 0 (Or.inl (by simp [on]))]
              exact r3
            have hol : wr κ h j ||| 2 ^ h < 2048 := or_lt hWj (pw_lt (by omega))
            have hf2 : fr (on (P + 1)) σ (px_wi υ (P + 1) j (nI (wr κ h j))) := fr_wi (fr_tr hf1 q2) _ (on_t _ _)
            have hrow2 : ∀ c, c < 11 → (px_wi υ (P + 1) j (nI (wr κ h j))).1 (P + 1) c = nI (wr κ h c) := fun c hc => by
              show px_up υ.1 (P + 1) j _ (P + 1) c = _
              rw [up_s]
              by_cases hcj : c = j
              · rw [if_pos hcj, hcj]
              · rw [if_neg hcj, q3 c hc, wr_un]
                unfold wU
                rw [if_neg hcj]
            by_cases hju : j = u
            · right
              refine ⟨(nI 0, px_wi υ (P + 1) j (nI (wr κ h j))), ?_, Or.inr ⟨_, rfl, hf2, hrow2, fun q => ?_⟩⟩
              · have hW0 := hunu.mpr hju
                rw [hW0] at q1 hz hvj hback hol ⊢
                simp (disch := omega) only [F_8007_15, f_8007_64, f_8007_103, p1, p2, r3, r4, s1, s2, sr, hur, gd_tt, oA_arr, px_obj_s, Option.bind_some, Option.map_some, Option.bind_none, eq_self, true_or, or_true, px_av_0, px_av_1, px_av_2, px_av_10, px_av_11, bn, wi_1, wi_2, wl_1, wl_21, wl_22, wr_1, wr_21, wr_22, Sum.elim_inl, Sum.elim_inr, ↓reduceIte, Nat.reduceLT, Nat.reduceLeDiff, not_false_eq_true, not_true_eq_false, Nat.reduceEqDiff, Nat.reduceAdd, reduceCtorEq, and_true, true_and, and_false, false_and, false_or, or_false, true_and, and_true, ni_divL, ni_subL, nI_add, pk_mul, nI_leI, nI_ltI, nI_eq, vp_in_eq, nI_clamp, ↓ni_tst, ni_tst2, fa_and, fa_or, ni_bit1, ni_1s, nI_l, mb_eq0, mb_ne0, mb_eq1, gd_tt, gd_t, bft, g2, snb, hW0, hz, q1, hvj, ni_nd, hback, hkj, hj11]
              · obtain ⟨e, e1, e2⟩ := (Ex_step hhn hsh).mp q
                rcases Nat.lt_or_ge e j with h5 | h5
                · exact g3 e h5 e2
                · exact q4 (Ex_swap hsh hhn hsg.1 (by omega) (by omega) (by omega) e2)
            · left
              refine ⟨(nI (j + 1), px_wi υ (P + 1) j (nI (wr κ h j))), ?_, by omega, rfl, hf2, hrow2, by omega, fun e he => ?_⟩
              · have hnz : ¬ wr κ h j = 0 := fun q => hju (hunu.mp q)
                simp (disch := omega) only [F_8007_15, f_8007_64, f_8007_103, f_8007_111, p1, p2, r3, r4, s1, s2, sr, hur, gd_tt, oA_arr, px_obj_s, Option.bind_some, Option.map_some, Option.bind_none, eq_self, true_or, or_true, px_av_0, px_av_1, px_av_2, px_av_10, px_av_11, bn, wi_1, wi_2, wl_1, wl_21, wl_22, wr_1, wr_21, wr_22, Sum.elim_inl, Sum.elim_inr, ↓reduceIte, Nat.reduceLT, Nat.reduceLeDiff, not_false_eq_true, not_true_eq_false, Nat.reduceEqDiff, Nat.reduceAdd, reduceCtorEq, and_true, true_and, and_false, false_and, false_or, or_false, true_and, and_true, ni_divL, ni_subL, nI_add, pk_mul, nI_leI, nI_ltI, nI_eq, vp_in_eq, nI_clamp, ↓ni_tst, ni_tst2, fa_and, fa_or, ni_bit1, ni_1s, nI_l, mb_eq0, mb_ne0, mb_eq1, gd_tt, gd_t, bft, g2, snb, hnz, hz, q1, hvj, ni_nd, hback, hkj, hj11]
              · by_cases hej : e = j
                · subst hej; exact q4
                · exact g3 e (by omega)
        · left
          have hne : ∃ x, (wr κ h j).testBit x = true ∧ (B h).testBit x = true := by
            apply Classical.byContradiction
            intro q
            exact hz (and_0iff.mpr (fun i hi => q ⟨i, hi⟩))
          obtain ⟨x, x1, x2⟩ := hne
          obtain ⟨x3, x4⟩ := (wr_tb κ h j x).mp x1
          refine ⟨(nI (j + 1), ρ), ?_, by omega, rfl, g1, g2, ?_, fun e he => ?_⟩
          · simp (disch := omega) only [F_8007_15, f_8007_111, p1, p2, r3, r4, s1, s2, sr, gd_tt, oA_arr, px_obj_s, Option.bind_some, Option.map_some, Option.bind_none, eq_self, true_or, or_true, px_av_0, px_av_1, px_av_2, px_av_10, px_av_11, bn, wi_1, wi_2, wl_1, wl_21, wl_22, wr_1, wr_21, wr_22, Sum.elim_inl, Sum.elim_inr, ↓reduceIte, Nat.reduceLT, Nat.reduceLeDiff, not_false_eq_true, not_true_eq_false, Nat.reduceEqDiff, Nat.reduceAdd, reduceCtorEq, and_true, true_and, and_false, false_and, false_or, or_false, true_and, and_true, ni_divL, ni_subL, nI_add, pk_mul, nI_leI, nI_ltI, nI_eq, vp_in_eq, nI_clamp, ↓ni_tst, ni_tst2, fa_and, fa_or, ni_bit1, ni_1s, nI_l, mb_eq0, mb_ne0, mb_eq1, gd_tt, gd_t, bft, g2, snb, hz, hkj, hj11]
          · have := hsg.1 x x3
            omega
          · by_cases hej : e = j
            · subst hej
              have := Ex_bad (k := k) (κ := κ) hhn hsh x3 (hall x (by omega)) x2
              rw [x4] at this
              exact this
            · exact g3 e (by omega)
    obtain ⟨b, q1, q2⟩ := loop
    have hF : f_8007 tT (d + 1) σ P (nI h) (nI k) = some b := by
      rw [f_8007_S]
      simp (disch := omega) only [F_8007, p1, p4, l1, h1, q1, gd_tt, oA_arr, px_obj_s, Option.bind_some, Option.map_some, Option.bind_none, eq_self, true_or, or_true, px_av_0, px_av_1, px_av_2, px_av_10, px_av_11, bn, wi_1, wi_2, wl_1, wl_21, wl_22, wr_1, wr_21, wr_22, Sum.elim_inl, Sum.elim_inr, ↓reduceIte, Nat.reduceLT, Nat.reduceLeDiff, not_false_eq_true, not_true_eq_false, Nat.reduceEqDiff, Nat.reduceAdd, reduceCtorEq, and_true, true_and, and_false, false_and, false_or, or_false, true_and, and_true, ni_divL, ni_subL, nI_add, pk_mul, nI_leI, nI_ltI, nI_eq, vp_in_eq, nI_clamp, ↓ni_tst, ni_tst2, fa_and, fa_or, ni_bit1, ni_1s, nI_l, mb_eq0, mb_ne0, mb_eq1, gd_tt, gd_t, bft]
      rw [if_pos (by omega)]
    rcases q2 with ⟨υ, rfl, w⟩ | ⟨υ, rfl, w⟩
    · exact Or.inl ⟨υ, hF, w⟩
    · exact Or.inr ⟨υ, hF, w⟩
end
