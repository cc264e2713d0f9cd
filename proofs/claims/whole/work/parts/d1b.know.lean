/-! telling: in how many rounds all of g know -/
section
variable {n : Nat} {B : Nat → Nat} {g s T G : Nat}
def tld (n : Nat) (B : Nat → Nat) (s T : Nat) : Prop := T < 2 ^ n ∧ (∀ x, T.testBit x = true → s.testBit x = false) ∧ hll n B s T
def kno (n : Nat) (B : Nat → Nat) (g : Nat) : Nat → Nat → Prop
  | 0, s => sbs g s
  | r + 1, s => ∃ T, tld n B s T ∧ kno n B g r (s ||| T)
theorem tld_0 : tld n B s 0 := ⟨Nat.two_pow_pos n, fun x h => (by rw [Nat.zero_testBit] at h; cases h), hll_0⟩
theorem tld_sub {L : Nat} (h : tld n B s T) (hs : sbs L T) : tld n B s L := ⟨sbs_lt hs h.1, fun x hx => h.2.1 x (hs x hx), hll_sub h.2.2 hs⟩
theorem kno_up {r : Nat} (h : kno n B g r s) : kno n B g (r + 1) s := ⟨0, tld_0, by rw [Nat.or_zero]; exact h⟩
theorem kno_le {r m : Nat} (hle : r ≤ m) (h : kno n B g r s) : kno n B g m s := by
  induction hle with
  | refl => exact h
  | step _ ih => exact kno_up ih
theorem lt_2048 {n T : Nat} (hn : n ≤ 11) (h : T < 2 ^ n) : T < 2048 := Nat.lt_of_lt_of_le h (pw_le hn)
theorem kno_mono (hn : n ≤ 11) : ∀ (r : Nat) (s u : Nat), sbs s u → kno n B g r s → kno n B g r u := by
  intro r
  induction r with
  | zero => intro s u hs h; exact sbs_tr h hs
  | succ r ih =>
    intro s u hs h
    obtain ⟨T, ⟨t1, t2, t3⟩, h⟩ := h
    have tl := lt_2048 hn t1
    have tb : ∀ x, (nd T u).testBit x = true ↔ T.testBit x = true ∧ u.testBit x = false := fun x => by rw [nd_tb tl, Bool.and_eq_true, Bool.not_eq_true']
    have sub : sbs (nd T u) T := fun x hx => ((tb x).mp hx).1
    refine ⟨nd T u, ⟨sbs_lt sub t1, fun x hx => ((tb x).mp hx).2, hll_S (hll_sub t3 sub) hs⟩, ih (s ||| T) _ (sbs_or (sbs_tr hs (sbs_l _ _)) (fun x hx => ?_)) h⟩
    rw [Nat.testBit_or, Bool.or_eq_true]
    cases hu : u.testBit x with
    | true => exact Or.inl rfl
    | false => exact Or.inr ((tb x).mpr ⟨hx, hu⟩)
theorem bc_ex {a : Nat} (h : 1 ≤ bc 11 a) : ∃ i, i < 11 ∧ a.testBit i = true := by
  apply Classical.byContradiction
  intro hno
  have : bc 11 a = bc 11 0 := bc_congr (fun i hi => by
    rw [Nat.zero_testBit]
    cases hb : a.testBit i with
    | false => rfl
    | true => exact absurd ⟨i, hi, hb⟩ hno)
  rw [bc_0] at this
  omega
theorem tld_nb (hw : wf n B) (h : tld n B s T) {x : Nat} (hx : T.testBit x = true) : ∃ y, y < n ∧ s.testBit y = true ∧ (B x).testBit y = true := by
  have hn := hw.1
  have hxn : x < n := tb_lt h.1 hx
  have h1 := h.2.2 (2 ^ x) (sbs_pw hx)
  rw [bc_pwe (by omega)] at h1
  obtain ⟨y, y1, y2⟩ := bc_ex h1
  rw [Nat.testBit_and, Bool.and_eq_true] at y2
  obtain ⟨j, j1, j2, j3⟩ := ar_tb.mp y2.1
  rw [Nat.testBit_two_pow, decide_eq_true_eq] at j2
  subst j2
  exact ⟨y, tb_lt (hw.2.1 _) j3, y2.2, j3⟩
theorem tld_ar (hw : wf n B) (h : tld n B s T) : sbs T (ar B n s) := fun x hx => by
  obtain ⟨y, y1, y2, y3⟩ := tld_nb hw h hx
  exact ar_tb.mpr ⟨y, y1, y2, by rw [hw.2.2.2.1]; exact y3⟩
theorem tld_bc (h : tld n B s T) : bc 11 T ≤ bc 11 s := Nat.le_trans (h.2.2 T (sbs_rf _)) (sbs_bc (sbs_ar _ _))
theorem rc_sbs {a b : Nat} (h : sbs a b) : ∀ m, sbs (rc B n m a) (rc B n m b) := by
  intro m
  induction m with
  | zero => exact h
  | succ m ih => exact sbs_or (sbs_tr ih (sbs_l _ _)) (sbs_tr (ar_sbs ih) (sbs_r _ _))
theorem rc_1s : ∀ m, rc B n m (s ||| ar B n s) = rc B n (m + 1) s := by
  intro m
  induction m with
  | zero => rfl
  | succ m ih =>
    show rc B n m (s ||| ar B n s) ||| ar B n (rc B n m (s ||| ar B n s)) = rc B n (m + 1) s ||| ar B n (rc B n (m + 1) s)
    rw [ih]
theorem rc_les {m k : Nat} (h : m ≤ k) : sbs (rc B n m s) (rc B n k s) := by
  induction h with
  | refl => exact sbs_rf _
  | step _ ih => exact sbs_tr ih (sbs_l _ _)
theorem rc_cl (hg : sbs (ar B n g) g) (hs : sbs s g) : ∀ m, sbs (rc B n m s) g := by
  intro m
  induction m with
  | zero => exact hs
  | succ m ih => exact sbs_or ih (sbs_tr (ar_sbs ih) hg)
theorem rc_fix (h : sbs (ar B n s) s) (m : Nat) : rc B n m s = s := sbs_eq (rc_cl h (sbs_rf _) m) (rc_les (Nat.zero_le m))
theorem rc_11cl (hw : wf n B) {h : Nat} (hh : h < n) : sbs (ar B n (rc B n 11 (2 ^ h))) (rc B n 11 (2 ^ h)) := by
  have hn := hw.1
  have hB : ∀ j, j < n → B j < 2048 := fun j _ => lt_2048 hn (hw.2.1 j)
  have hex : ∃ i, i < 11 ∧ ly B n h (i + 1) = 0 := by
    apply Classical.byContradiction
    intro hno
    have := ly_10 (M := 11) (by omega) hB (fun i hi q => hno ⟨i, hi, q⟩)
    omega
  obtain ⟨i, i1, i2⟩ := hex
  have e1 := rc_stay (by omega) hB i2 (11 - i)
  have e2 := rc_stay (by omega) hB i2 (12 - i)
  rw [show i + (11 - i) = 11 by omega] at e1
  rw [show i + (12 - i) = 11 + 1 by omega, ← e1] at e2
  intro x hx
  rw [← e2]
  exact sbs_r _ _ x hx
theorem kno_reach (hw : wf n B) : ∀ (r s : Nat), kno n B g r s → ∃ K, sbs g K ∧ sbs K (rc B n r s) ∧ bc 11 K ≤ 2 ^ r * bc 11 s := by
  intro r
  induction r with
  | zero => intro s h; exact ⟨s, h, sbs_rf _, by omega⟩
  | succ r ih =>
    intro s h
    obtain ⟨T, ht, h⟩ := h
    obtain ⟨K, k1, k2, k3⟩ := ih _ h
    refine ⟨K, k1, sbs_tr k2 ?_, ?_⟩
    · rw [← rc_1s]
      exact rc_sbs (sbs_or (sbs_l _ _) (sbs_tr (tld_ar hw ht) (sbs_r _ _))) r
    · have h1 := bc_or_le s T
      have h2 := tld_bc ht
      have h3 : 2 ^ r * bc 11 (s ||| T) ≤ 2 ^ r * (2 * bc 11 s) := Nat.mul_le_mul_left _ (by omega)
      rw [Nat.pow_succ, Nat.mul_assoc]
      omega
/-- those who know, on the way to g -/
def vkn (n : Nat) (B : Nat → Nat) (g s : Nat) : Prop := s < 2 ^ n ∧ rc B n 11 s = g
def gcl (n : Nat) (B : Nat → Nat) (g : Nat) : Prop := g < 2 ^ n ∧ sbs (ar B n g) g
theorem vkn_sub (h : vkn n B g s) : sbs s g := by rw [← h.2]; exact rc_les (m := 0) (Nat.zero_le 11)
theorem vkn_ar (h : vkn n B g s) : sbs (ar B n s) g := by
  rw [← h.2]
  exact sbs_tr (sbs_r (rc B n 0 s) _) (rc_les (m := 1) (by omega))
theorem or_ltn {a b : Nat} (h1 : a < 2 ^ n) (h2 : b < 2 ^ n) : a ||| b < 2 ^ n := Nat.or_lt_two_pow h1 h2
theorem vkn_or (hg : gcl n B g) (h : vkn n B g s) {u : Nat} (hu : sbs u g) : vkn n B g (s ||| u) := by
  refine ⟨or_ltn h.1 (sbs_lt hu hg.1), sbs_eq (rc_cl hg.2 (sbs_or (vkn_sub h) hu) 11) ?_⟩
  have := rc_sbs (n := n) (B := B) (sbs_l s u) 11
  rw [h.2] at this
  exact this
theorem vkn_tld (hw : wf n B) (hg : gcl n B g) (h : vkn n B g s) (ht : tld n B s T) : vkn n B g (s ||| T) := vkn_or hg h (sbs_tr (tld_ar hw ht) (vkn_ar h))
theorem might (hw : wf n B) (hg : gcl n B g) (h : vkn n B g s) {r : Nat} (hk : kno n B g r s) : rc B n r s = g ∧ bc 11 g ≤ bc 11 s * 2 ^ r := by
  obtain ⟨K, k1, k2, k3⟩ := kno_reach hw r s hk
  refine ⟨sbs_eq (rc_cl hg.2 (vkn_sub h) r) (sbs_tr k1 k2), ?_⟩
  have := sbs_bc k1
  rw [Nat.mul_comm]
  omega
theorem tld_1 (hw : wf n B) {x y : Nat} (hxn : x < n) (hx : s.testBit x = false) (hy : s.testBit y = true) (hb : (B y).testBit x = true) : tld n B s (2 ^ x) := by
  have hn := hw.1
  refine ⟨Nat.pow_lt_pow_right (by omega) hxn, fun z hz => ?_, fun L hL => ?_⟩
  · rw [Nat.testBit_two_pow, decide_eq_true_eq] at hz
    rw [← hz]; exact hx
  · by_cases hLx : L.testBit x = true
    · have e1 := sbs_bc hL
      have e2 := bc_pw x
      have hyn : y < n := by
        rcases Nat.lt_or_ge y n with q | q
        · exact q
        · rw [hw.2.2.1 y q, Nat.zero_testBit] at hb; cases hb
      have : 1 ≤ tls n B s L := bc_1 (i := y) (by omega) (by
        rw [Nat.testBit_and, hy, Bool.and_true]
        exact ar_tb.mpr ⟨x, hxn, hLx, by rw [hw.2.2.2.1]; exact hb⟩)
      omega
    · have : L = 0 := sbs_eq (fun z hz => by
        have := hL z hz
        rw [Nat.testBit_two_pow, decide_eq_true_eq] at this
        subst this
        exact absurd hz hLx) (sbs_0 _)
      rw [this, bc_0]
      exact Nat.zero_le _
theorem not_cl {n : Nat} {B : Nat → Nat} {s : Nat} (h : ¬ sbs (ar B n s) s) : ∃ x y, y < n ∧ s.testBit y = true ∧ (B y).testBit x = true ∧ s.testBit x = false := by
  apply Classical.byContradiction
  intro hno
  apply h
  intro x hx
  obtain ⟨y, y1, y2, y3⟩ := ar_tb.mp hx
  cases hb : s.testBit x with
  | true => rfl
  | false => exact absurd ⟨x, y, y1, y2, y3, hb⟩ hno
theorem vkn_ncl (h : vkn n B g s) (hne : s ≠ g) : ¬ sbs (ar B n s) s := fun q => hne (by rw [← h.2, rc_fix q])
/-- ten rounds are enough -/
theorem kno_all (hw : wf n B) (hg : gcl n B g) : ∀ (m s : Nat), vkn n B g s → 11 ≤ bc 11 s + m → kno n B g m s := by
  have hn := hw.1
  intro m
  induction m with
  | zero =>
    intro s hv hb
    have hs := lt_2048 hn hv.1
    have e : s = 2047 := sbs_full (fun x hx => by
      have : x < 11 := tb_lt (n := 11) hs hx
      exact tb_2047 x this) (by omega) (by
      have := bc_le 11 2047
      omega)
    intro x hx
    rw [e]
    exact tb_2047 x (tb_lt (n := 11) (lt_2048 hn hg.1) hx)
  | succ m ih =>
    intro s hv hb
    by_cases hne : s = g
    · exact kno_le (Nat.zero_le _) (show sbs g s by rw [hne]; exact sbs_rf _)
    · obtain ⟨x, y, y1, y2, y3, y4⟩ := not_cl (vkn_ncl hv hne)
      have hxn : x < n := tb_lt (hw.2.1 y) y3
      have ht := tld_1 hw hxn y4 y2 y3
      refine ⟨2 ^ x, ht, ih _ (vkn_tld hw hg hv ht) ?_⟩
      rw [bc_one (by omega) y4]
      omega
/-- whether a house can be told beside some -/
noncomputable def cbt (n : Nat) (B : Nat → Nat) (h s T : Nat) : Bool := @decide (hll n B s (T ||| 2 ^ h)) (Classical.propDecidable _)
theorem cbt_t {h : Nat} : cbt n B h s T = true ↔ hll n B s (T ||| 2 ^ h) := by
  unfold cbt
  exact @decide_eq_true_iff _ (Classical.propDecidable _)
noncomputable def grd (n : Nat) (B : Nat → Nat) (s : Nat) : Nat → Nat
  | 0 => 0
  | j + 1 => if (!s.testBit j && cbt n B j s (grd n B s j)) = true then grd n B s j ||| 2 ^ j else grd n B s j
theorem grd_lt : ∀ j, grd n B s j < 2 ^ j := by
  intro j
  induction j with
  | zero => exact Nat.one_pos
  | succ j ih =>
    have h2 : 2 ^ j < 2 ^ (j + 1) := Nat.pow_lt_pow_right (by omega) (by omega)
    simp only [grd]
    split
    · exact Nat.or_lt_two_pow (by omega) h2
    · omega
theorem grd_le : ∀ {i j : Nat}, i ≤ j → sbs (grd n B s i) (grd n B s j) := by
  intro i j h
  induction h with
  | refl => exact sbs_rf _
  | @step j _ ih =>
    refine sbs_tr ih ?_
    simp only [grd]
    split
    · exact sbs_l _ _
    · exact sbs_rf _
theorem grd_ok : ∀ j, hll n B s (grd n B s j) ∧ ∀ x, (grd n B s j).testBit x = true → s.testBit x = false := by
  intro j
  induction j with
  | zero => exact ⟨hll_0, fun x h => by simp only [grd] at h; rw [Nat.zero_testBit] at h; cases h⟩
  | succ j ih =>
    by_cases hc : (!s.testBit j && cbt n B j s (grd n B s j)) = true
    · have e : grd n B s (j + 1) = grd n B s j ||| 2 ^ j := by simp only [grd, hc, ↓reduceIte]
      rw [e]
      rw [Bool.and_eq_true, Bool.not_eq_true'] at hc
      refine ⟨cbt_t.mp hc.2, fun x hx => ?_⟩
      rw [Nat.testBit_or, Bool.or_eq_true, Nat.testBit_two_pow, decide_eq_true_eq] at hx
      rcases hx with hx | hx
      · exact ih.2 x hx
      · rw [← hx]; exact hc.1
    · have e : grd n B s (j + 1) = grd n B s j := by
        show (if (!s.testBit j && cbt n B j s (grd n B s j)) = true then _ else _) = _
        rw [if_neg hc]
      rw [e]
      exact ih
theorem grd_tld : tld n B s (grd n B s n) := ⟨grd_lt n, (grd_ok n).2, (grd_ok n).1⟩
theorem grd_max (hn : n ≤ 11) (h : tld n B s G) : bc 11 G ≤ bc 11 (grd n B s n) := by
  apply Classical.byContradiction
  intro hlt
  obtain ⟨x, x1, x2, x3⟩ := hll_aug (lt_2048 hn (grd_lt n)) (lt_2048 hn h.1) (grd_ok n).1 h.2.2 (by omega : bc 11 (grd n B s n) < bc 11 G)
  have hxn : x < n := tb_lt h.1 x1
  have hc : (!s.testBit x && cbt n B x s (grd n B s x)) = true := by
    rw [Bool.and_eq_true, Bool.not_eq_true']
    refine ⟨h.2.1 x x1, cbt_t.mpr (hll_sub x3 (sbs_or (sbs_tr (grd_le (by omega)) (sbs_l _ _)) (sbs_r _ _)))⟩
  have : (grd n B s (x + 1)).testBit x = true := by
    simp only [grd, hc, ↓reduceIte]
    rw [Nat.testBit_or, Nat.testBit_two_pow_self, Bool.or_true]
  have := grd_le (n := n) (B := B) (s := s) (show x + 1 ≤ n by omega) x this
  rw [this] at x2
  cases x2
theorem tld_ext (hn : n ≤ 11) : ∀ (k T : Nat), bc 11 T + k = bc 11 (grd n B s n) → tld n B s T → ∃ U, tld n B s U ∧ sbs T U ∧ bc 11 U = bc 11 (grd n B s n) := by
  intro k
  induction k with
  | zero => intro T h ht; exact ⟨T, ht, sbs_rf _, by omega⟩
  | succ k ih =>
    intro T h ht
    have hgt := grd_tld (n := n) (B := B) (s := s)
    obtain ⟨x, x1, x2, x3⟩ := hll_aug (lt_2048 hn ht.1) (lt_2048 hn hgt.1) ht.2.2 hgt.2.2 (by omega : bc 11 T < bc 11 (grd n B s n))
    have hxn : x < n := tb_lt hgt.1 x1
    obtain ⟨U, u1, u2, u3⟩ := ih (T ||| 2 ^ x) (by rw [bc_one (by omega) x2]; omega) ⟨or_ltn ht.1 (Nat.pow_lt_pow_right (by omega) hxn), fun y hy => by
      rw [Nat.testBit_or, Bool.or_eq_true, Nat.testBit_two_pow, decide_eq_true_eq] at hy
      rcases hy with hy | hy
      · exact ht.2.1 y hy
      · rw [← hy]; exact hgt.2.1 x x1, x3⟩
    exact ⟨U, u1, sbs_tr (sbs_l _ _) u2, u3⟩
theorem grd_pos (hw : wf n B) (h : vkn n B g s) (hne : s ≠ g) : 1 ≤ bc 11 (grd n B s n) := by
  have hn := hw.1
  obtain ⟨x, y, y1, y2, y3, y4⟩ := not_cl (vkn_ncl h hne)
  have hxn : x < n := tb_lt (hw.2.1 y) y3
  have := grd_max hn (tld_1 hw hxn y4 y2 y3)
  rw [bc_pwe (by omega)] at this
  exact this
end
