/-! telling: houses with the same neighbours -/
def trp (a b i : Nat) : Nat := if i = a then b else if i = b then a else i
theorem trp_a (a b : Nat) : trp a b a = b := by simp [trp]
theorem trp_b (a b : Nat) : trp a b b = a := by
  unfold trp
  by_cases h : b = a
  · rw [if_pos h]; exact h
  · rw [if_neg h, if_pos rfl]
theorem trp_n {a b i : Nat} (h1 : i ≠ a) (h2 : i ≠ b) : trp a b i = i := by simp [trp, h1, h2]
theorem trp_trp (a b i : Nat) : trp a b (trp a b i) = i := by
  by_cases h1 : i = a
  · subst h1; rw [trp_a, trp_b]
  · by_cases h2 : i = b
    · subst h2; rw [trp_b, trp_a]
    · rw [trp_n h1 h2, trp_n h1 h2]
theorem trp_lt {a b i n : Nat} (ha : a < n) (hb : b < n) (hi : i < n) : trp a b i < n := by
  unfold trp
  split
  · exact hb
  · split
    · exact ha
    · exact hi
theorem trp_ge {a b i n : Nat} (ha : a < n) (hb : b < n) (hi : n ≤ i) : trp a b i = i := trp_n (by omega) (by omega)
def swp (a b s : Nat) : Nat := bs (fun i => s.testBit (trp a b i)) 11
theorem lt_tbs {a b i : Nat} (ha : a.testBit i = false) (hb : b.testBit i = true) (h : ∀ j, i < j → a.testBit j = b.testBit j) : a < b := by
  have e1 : a / 2 ^ (i + 1) = b / 2 ^ (i + 1) := Nat.eq_of_testBit_eq fun j => by
    rw [Nat.testBit_div_two_pow, Nat.testBit_div_two_pow]
    exact h _ (by omega)
  have e2 : a % 2 ^ (i + 1) < 2 ^ i := by
    apply Nat.lt_pow_two_of_testBit
    intro j hj
    rw [Nat.testBit_mod_two_pow]
    by_cases q : j = i
    · rw [q, ha, Bool.and_false]
    · rw [decide_eq_false (by omega), Bool.false_and]
  have e3 : 2 ^ i ≤ b % 2 ^ (i + 1) := by
    apply Nat.le_of_not_lt
    intro q
    have h1 := Nat.testBit_lt_two_pow q
    rw [Nat.testBit_mod_two_pow, hb, decide_eq_true (by omega)] at h1
    cases h1
  have e4 := Nat.div_add_mod a (2 ^ (i + 1))
  have e5 := Nat.div_add_mod b (2 ^ (i + 1))
  rw [e1] at e4
  omega
section
variable {n a b : Nat} {B : Nat → Nat} {g s u T S L : Nat}
theorem swp_tb (ha : a < 11) (hb : b < 11) (hs : s < 2048) (i : Nat) : (swp a b s).testBit i = s.testBit (trp a b i) := by
  unfold swp
  rw [bs_tb]
  by_cases hi : i < 11
  · rw [decide_eq_true hi, Bool.true_and]
  · rw [decide_eq_false hi, Bool.false_and, trp_ge ha hb (by omega), tb_big hs (by omega)]
theorem swp_lt : swp a b s < 2048 := bs_lt (Nat.le_refl _)
theorem swp_swp (ha : a < 11) (hb : b < 11) (hs : s < 2048) : swp a b (swp a b s) = s := Nat.eq_of_testBit_eq fun i => by
  rw [swp_tb ha hb swp_lt, swp_tb ha hb hs, trp_trp]
theorem swp_ltn (ha : a < n) (hb : b < n) (hn : n ≤ 11) (hs : s < 2 ^ n) : swp a b s < 2 ^ n := by
  apply Nat.lt_pow_two_of_testBit
  intro i hi
  rw [swp_tb (by omega) (by omega) (lt_2048 hn hs), trp_ge ha hb hi]
  exact Nat.testBit_lt_two_pow (Nat.lt_of_lt_of_le hs (Nat.pow_le_pow_right (by omega) hi))
theorem swp_same (ha : a < 11) (hb : b < 11) (hs : s < 2048) (h : s.testBit a = s.testBit b) : swp a b s = s := Nat.eq_of_testBit_eq fun i => by
  rw [swp_tb ha hb hs]
  by_cases h1 : i = a
  · subst h1; rw [trp_a, h]
  · by_cases h2 : i = b
    · subst h2; rw [trp_b, h]
    · rw [trp_n h1 h2]
theorem swp_bc1 (ha : a < 11) (hb : b < 11) (hs : s < 2048) (h1 : s.testBit a = true) (h2 : s.testBit b = false) : bc 11 (swp a b s) = bc 11 s := by
  have hab : a ≠ b := fun e => by rw [e, h2] at h1; cases h1
  have e : swp a b s = nd s (2 ^ a) ||| 2 ^ b := Nat.eq_of_testBit_eq fun i => by
    rw [swp_tb ha hb hs, Nat.testBit_or, nd_tb hs, Nat.testBit_two_pow, Nat.testBit_two_pow]
    by_cases q1 : i = a
    · subst q1; rw [trp_a, h2, decide_eq_true rfl, decide_eq_false (Ne.symm hab)]; simp
    · by_cases q2 : i = b
      · subst q2; rw [trp_b, h1, decide_eq_true rfl]; simp
      · rw [trp_n q1 q2, decide_eq_false (Ne.symm q1), decide_eq_false (Ne.symm q2)]; simp
  rw [e, bc_one hb (by rw [nd_tb hs, h2, Bool.false_and])]
  exact bc_nd hs ha h1
theorem swp_bc (ha : a < 11) (hb : b < 11) (hs : s < 2048) : bc 11 (swp a b s) = bc 11 s := by
  cases h1 : s.testBit a with
  | true =>
    cases h2 : s.testBit b with
    | true => rw [swp_same ha hb hs (by rw [h1, h2])]
    | false => exact swp_bc1 ha hb hs h1 h2
  | false =>
    cases h2 : s.testBit b with
    | false => rw [swp_same ha hb hs (by rw [h1, h2])]
    | true =>
      have := swp_bc1 (s := swp a b s) ha hb swp_lt (by rw [swp_tb ha hb hs, trp_a, h2]) (by rw [swp_tb ha hb hs, trp_b, h1])
      rw [swp_swp ha hb hs] at this
      exact this.symm
theorem swp_or (ha : a < 11) (hb : b < 11) (hs : s < 2048) (hu : u < 2048) : swp a b (s ||| u) = swp a b s ||| swp a b u := Nat.eq_of_testBit_eq fun i => by
  rw [swp_tb ha hb (or_lt hs hu), Nat.testBit_or, Nat.testBit_or, swp_tb ha hb hs, swp_tb ha hb hu]
theorem swp_and (ha : a < 11) (hb : b < 11) (hs : s < 2048) (hu : u < 2048) : swp a b (s &&& u) = swp a b s &&& swp a b u := Nat.eq_of_testBit_eq fun i => by
  rw [swp_tb ha hb (and_lt hs), Nat.testBit_and, Nat.testBit_and, swp_tb ha hb hs, swp_tb ha hb hu]
theorem swp_sbs (ha : a < 11) (hb : b < 11) (hs : s < 2048) (hu : u < 2048) (h : sbs s u) : sbs (swp a b s) (swp a b u) := fun i hi => by
  rw [swp_tb ha hb hs] at hi
  rw [swp_tb ha hb hu]
  exact h _ hi
/-- two with the same neighbours -/
def twn (B : Nat → Nat) (a b : Nat) : Prop := ∀ x, x ≠ a → x ≠ b → (B a).testBit x = (B b).testBit x
theorem trp_B (hw : wf n B) (h : twn B a b) (i j : Nat) : (B (trp a b i)).testBit (trp a b j) = (B i).testBit j := by
  have sy := hw.2.2.2.1
  have ir := hw.2.2.2.2
  by_cases i1 : i = a
  · subst i1
    rw [trp_a]
    by_cases j1 : j = i
    · subst j1; rw [trp_a, ir, ir]
    · by_cases j2 : j = b
      · subst j2; rw [trp_b]; exact sy _ _
      · rw [trp_n j1 j2]; exact (h j j1 j2).symm
  · by_cases i2 : i = b
    · subst i2
      rw [trp_b]
      by_cases j1 : j = a
      · subst j1; rw [trp_a]; exact sy _ _
      · by_cases j2 : j = i
        · subst j2; rw [trp_b, ir, ir]
        · rw [trp_n j1 j2]; exact h j j1 j2
    · rw [trp_n i1 i2]
      by_cases j1 : j = a
      · subst j1; rw [trp_a, sy i b, sy i j]; exact (h i i1 i2).symm
      · by_cases j2 : j = b
        · subst j2; rw [trp_b, sy i a, sy i j]; exact h i i1 i2
        · rw [trp_n j1 j2]
theorem ar_ltn (hw : wf n B) : ar B n s < 2048 := ar_lt (fun h _ => lt_2048 hw.1 (hw.2.1 h))
theorem ar_swp (hw : wf n B) (ha : a < n) (hb : b < n) (h : twn B a b) (hs : s < 2048) : ar B n (swp a b s) = swp a b (ar B n s) := by
  have hn := hw.1
  apply tb_eq
  intro i
  rw [swp_tb (by omega) (by omega) (ar_ltn hw), ar_tb, ar_tb]
  constructor
  · rintro ⟨j, j1, j2, j3⟩
    rw [swp_tb (by omega) (by omega) hs] at j2
    exact ⟨trp a b j, trp_lt ha hb j1, j2, by rw [trp_B hw h]; exact j3⟩
  · rintro ⟨j, j1, j2, j3⟩
    refine ⟨trp a b j, trp_lt ha hb j1, ?_, ?_⟩
    · rw [swp_tb (by omega) (by omega) hs, trp_trp]; exact j2
    · rw [← trp_B hw h, trp_trp]; exact j3
theorem tls_swp (hw : wf n B) (ha : a < n) (hb : b < n) (h : twn B a b) (hS : S < 2048) (hL : L < 2048) : tls n B (swp a b S) (swp a b L) = tls n B S L := by
  have hn := hw.1
  unfold tls
  rw [ar_swp hw ha hb h hL, ← swp_and (by omega) (by omega) (ar_ltn hw) hS, swp_bc (by omega) (by omega) (and_lt (ar_ltn hw))]
theorem hll_swp (hw : wf n B) (ha : a < n) (hb : b < n) (h : twn B a b) (hS : S < 2048) (hT : T < 2048) (hh : hll n B S T) : hll n B (swp a b S) (swp a b T) := by
  have hn := hw.1
  intro L hL
  have hLl : L < 2048 := sbs_lt (n := 11) hL swp_lt
  have e1 := swp_swp (a := a) (b := b) (by omega) (by omega) hLl
  have h1 : sbs (swp a b L) T := by
    have := swp_sbs (a := a) (b := b) (by omega) (by omega) hLl swp_lt hL
    rw [swp_swp (by omega) (by omega) hT] at this
    exact this
  have h2 := hh _ h1
  rw [swp_bc (by omega) (by omega) hLl, ← tls_swp hw ha hb h hS swp_lt, e1] at h2
  exact h2
theorem tld_swp (hw : wf n B) (ha : a < n) (hb : b < n) (h : twn B a b) (hs : s < 2 ^ n) (ht : tld n B s T) : tld n B (swp a b s) (swp a b T) := by
  have hn := hw.1
  have hs' := lt_2048 hn hs
  have ht' := lt_2048 hn ht.1
  refine ⟨swp_ltn ha hb hn ht.1, fun x hx => ?_, hll_swp hw ha hb h hs' ht' ht.2.2⟩
  rw [swp_tb (by omega) (by omega) ht'] at hx
  rw [swp_tb (by omega) (by omega) hs']
  exact ht.2.1 _ hx
theorem kno_swp (hw : wf n B) (ha : a < n) (hb : b < n) (h : twn B a b) (hg : g < 2 ^ n) : ∀ (r s : Nat), s < 2 ^ n → kno n B g r s → kno n B (swp a b g) r (swp a b s) := by
  have hn := hw.1
  intro r
  induction r with
  | zero => intro s hs hk; exact swp_sbs (by omega) (by omega) (lt_2048 hn hg) (lt_2048 hn hs) hk
  | succ r ih =>
    intro s hs hk
    obtain ⟨T, ht, hk⟩ := hk
    refine ⟨swp a b T, tld_swp hw ha hb h hs ht, ?_⟩
    rw [← swp_or (by omega) (by omega) (lt_2048 hn hs) (lt_2048 hn ht.1)]
    exact ih _ (or_ltn hs ht.1) hk
/-- those ahead of a house with the same neighbours -/
def eld (B : Nat → Nat) (h : Nat) : Nat → Nat := bs (fun o => decide (nd (B h) (2 ^ h ||| 2 ^ o) = nd (B o) (2 ^ h ||| 2 ^ o)))
theorem eld_tb (hw : wf n B) {h o : Nat} (he : (eld B h h).testBit o = true) : o < h ∧ twn B h o := by
  have hn := hw.1
  unfold eld at he
  rw [bs_tb, Bool.and_eq_true, decide_eq_true_eq, decide_eq_true_eq] at he
  refine ⟨he.1, fun x h1 h2 => ?_⟩
  have := congrArg (fun t => t.testBit x) he.2
  rw [nd_tb (lt_2048 hn (hw.2.1 h)), nd_tb (lt_2048 hn (hw.2.1 o)), Nat.testBit_or, Nat.testBit_two_pow, Nat.testBit_two_pow, decide_eq_false (Ne.symm h1), decide_eq_false (Ne.symm h2)] at this
  simpa using this
/-- of such ones the first is told first -/
theorem nrm (hw : wf n B) (hg : gcl n B g) (hv : vkn n B g s) {m r : Nat} (hex : ∃ T, tld n B s T ∧ bc 11 T = m ∧ kno n B g r (s ||| T)) : ∃ T, (tld n B s T ∧ bc 11 T = m ∧ kno n B g r (s ||| T)) ∧ ∀ h e, T.testBit h = true → (eld B h h).testBit e = true → s.testBit e = true ∨ T.testBit e = true := by
  have hn := hw.1
  obtain ⟨T, ⟨t1, t2, t3⟩, hmin⟩ := ex_min (fun x => x) hex
  refine ⟨T, ⟨t1, t2, t3⟩, fun h e hh he => ?_⟩
  obtain ⟨e1, e2⟩ := eld_tb hw he
  cases q1 : s.testBit e with
  | true => exact Or.inl rfl
  | false =>
    cases q2 : T.testBit e with
    | true => exact Or.inr rfl
    | false =>
      exfalso
      have hhn : h < n := tb_lt t1.1 hh
      have hen : e < n := by omega
      have hTl := lt_2048 hn t1.1
      have hsl := lt_2048 hn hv.1
      have hgl := lt_2048 hn hg.1
      have hsh := t1.2.1 h hh
      have ss : swp h e s = s := swp_same (by omega) (by omega) hsl (by rw [hsh, q1])
      obtain ⟨y, y1, y2, y3⟩ := tld_nb hw t1 hh
      have gh : g.testBit h = true := vkn_ar hv h (tld_ar hw t1 h hh)
      have ge : g.testBit e = true := by
        apply vkn_ar hv
        refine ar_tb.mpr ⟨y, y1, y2, ?_⟩
        rw [hw.2.2.2.1, ← e2 y (fun z => by rw [z, hsh] at y2; cases y2) (fun z => by rw [z, q1] at y2; cases y2)]
        exact y3
      have sg : swp h e g = g := swp_same (by omega) (by omega) hgl (by rw [gh, ge])
      have k1 := tld_swp hw hhn hen e2 hv.1 t1
      rw [ss] at k1
      have k2 := kno_swp hw hhn hen e2 hg.1 r _ (or_ltn hv.1 t1.1) t3
      rw [sg, swp_or (by omega) (by omega) hsl hTl, ss] at k2
      have k3 := hmin (swp h e T) ⟨k1, by rw [swp_bc (by omega) (by omega) hTl]; exact t2, k2⟩
      have k4 : swp h e T < T := lt_tbs (i := h) (by rw [swp_tb (by omega) (by omega) hTl, trp_a]; exact q2) hh (fun j hj => by
        rw [swp_tb (by omega) (by omega) hTl, trp_n (by omega) (by omega)])
      omega
/-- what is tried: a set of the most, in order -/
theorem best (hw : wf n B) (hg : gcl n B g) (hv : vkn n B g s) {r : Nat} (hk : kno n B g (r + 1) s) : ∃ T, (tld n B s T ∧ bc 11 T = bc 11 (grd n B s n) ∧ kno n B g r (s ||| T)) ∧ ∀ h e, T.testBit h = true → (eld B h h).testBit e = true → s.testBit e = true ∨ T.testBit e = true := by
  have hn := hw.1
  obtain ⟨T, t1, t2⟩ := hk
  have := grd_max hn t1
  obtain ⟨U, u1, u2, u3⟩ := tld_ext hn (bc 11 (grd n B s n) - bc 11 T) T (by omega) t1
  exact nrm hw hg hv ⟨U, u1, u3, kno_mono hn r _ _ (sbs_or (sbs_l _ _) (sbs_tr u2 (sbs_r _ _))) t2⟩
end
