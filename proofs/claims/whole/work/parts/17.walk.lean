/-! towns that are well made; walks of so many steps -/
def wf (n : Nat) (B : Nat → Nat) : Prop := n ≤ 11 ∧ (∀ a, B a < 2 ^ n) ∧ (∀ a, n ≤ a → B a = 0) ∧ (∀ a b, (B a).testBit b = (B b).testBit a) ∧ ∀ a, (B a).testBit a = false
theorem pw_le {n : Nat} (h : n ≤ 11) : 2 ^ n ≤ 2048 := Nat.pow_le_pow_right (n := 2) (by omega) h
theorem tb_lt {s n i : Nat} (hs : s < 2 ^ n) (h : s.testBit i = true) : i < n := by
  rcases Nat.lt_or_ge i n with q | q
  · exact q
  · rw [Nat.testBit_lt_two_pow (Nat.lt_of_lt_of_le hs (Nat.pow_le_pow_right (by omega) q))] at h
    cases h
section
variable {n : Nat} {B : Nat → Nat}
theorem wf_2048 (h : wf n B) (a : Nat) : B a < 2048 := Nat.lt_of_lt_of_le (h.2.1 a) (pw_le h.1)
theorem wf_r (h : wf n B) {a b : Nat} (hb : (B a).testBit b = true) : b < n := tb_lt (h.2.1 a) hb
theorem wf_s (h : wf n B) {a b : Nat} (hb : (B a).testBit b = true) : (B b).testBit a = true := by rw [← h.2.2.2.1 a b]; exact hb
theorem wf_l (h : wf n B) {a b : Nat} (hb : (B a).testBit b = true) : a < n := wf_r h (wf_s h hb)
theorem wf_ne (h : wf n B) {a b : Nat} (hb : (B a).testBit b = true) : a ≠ b := fun q => by
  subst q
  rw [h.2.2.2.2 a] at hb
  cases hb
def wk (B : Nat → Nat) (n a : Nat) : Nat → Nat
  | 0 => 2 ^ a
  | m + 1 => ar B n (wk B n a m)
theorem wk_S (a m y : Nat) : (wk B n a (m + 1)).testBit y = true ↔ ∃ x, x < n ∧ (wk B n a m).testBit x = true ∧ (B x).testBit y = true := ar_tb
theorem wk_0 (a y : Nat) : (wk B n a 0).testBit y = true ↔ y = a := by
  simp only [wk, Nat.testBit_two_pow, decide_eq_true_eq]
  exact eq_comm
theorem ly_00 (a : Nat) : (ly B n a 0).testBit a = true := (wk_0 (B := B) (n := n) a a).mpr rfl
theorem wk_in (h : wf n B) {a : Nat} (ha : a < n) : ∀ {m y : Nat}, (wk B n a m).testBit y = true → y < n := by
  intro m y hy
  cases m with
  | zero => rw [(wk_0 a y).mp hy]; exact ha
  | succ m => obtain ⟨x, -, -, q⟩ := (wk_S a m y).mp hy; exact wf_r h q
/-- the first step instead of the last -/
theorem wk_front (h : wf n B) : ∀ (m a y : Nat), (wk B n a (m + 1)).testBit y = true ↔ ∃ x, (B a).testBit x = true ∧ (wk B n x m).testBit y = true := by
  intro m
  induction m with
  | zero =>
    intro a y
    rw [wk_S]
    constructor
    · rintro ⟨x, -, h1, h2⟩
      rw [(wk_0 a x).mp h1] at h2
      exact ⟨y, h2, (wk_0 y y).mpr rfl⟩
    · rintro ⟨x, h1, h2⟩
      rw [(wk_0 x y).mp h2]
      exact ⟨a, wf_l h h1, (wk_0 a a).mpr rfl, h1⟩
  | succ m ih =>
    intro a y
    rw [wk_S]
    constructor
    · rintro ⟨x, h0, h1, h2⟩
      obtain ⟨z, h3, h4⟩ := (ih a x).mp h1
      exact ⟨z, h3, (wk_S z m y).mpr ⟨x, h0, h4, h2⟩⟩
    · rintro ⟨z, h3, h4⟩
      obtain ⟨x, h0, h1, h2⟩ := (wk_S z m y).mp h4
      exact ⟨x, h0, (ih a x).mpr ⟨z, h3, h1⟩, h2⟩
theorem wk_sym (h : wf n B) : ∀ (m a y : Nat), (wk B n a m).testBit y = true → (wk B n y m).testBit a = true := by
  intro m
  induction m with
  | zero => intro a y hy; rw [(wk_0 a y).mp hy]; exact (wk_0 a a).mpr rfl
  | succ m ih =>
    intro a y hy
    obtain ⟨x, h0, h1, h2⟩ := (wk_S a m y).mp hy
    exact (wk_front h m y a).mpr ⟨x, wf_s h h2, ih a x h1⟩
theorem wk_join (h : wf n B) : ∀ (i j a x y : Nat), (wk B n a i).testBit x = true → (wk B n x j).testBit y = true → (wk B n a (i + j)).testBit y = true := by
  intro i j
  induction j with
  | zero => intro a x y h1 h2; rw [(wk_0 x y).mp h2]; exact h1
  | succ j ih =>
    intro a x y h1 h2
    obtain ⟨z, h0, h3, h4⟩ := (wk_S x j y).mp h2
    exact (wk_S a (i + j) y).mpr ⟨z, h0, ih a x z h1 h3, h4⟩
theorem rc_wk (a x : Nat) : ∀ m, (rc B n m (2 ^ a)).testBit x = true ↔ ∃ j, j ≤ m ∧ (wk B n a j).testBit x = true := by
  intro m
  induction m generalizing x with
  | zero =>
    constructor
    · intro q; exact ⟨0, Nat.le_refl _, q⟩
    · rintro ⟨j, h1, h2⟩
      have : j = 0 := by omega
      subst this; exact h2
  | succ m ih =>
    simp only [rc, Nat.testBit_or, Bool.or_eq_true]
    rw [ih, ar_tb]
    constructor
    · rintro (⟨j, h1, h2⟩ | ⟨y, h1, h2, h3⟩)
      · exact ⟨j, by omega, h2⟩
      · obtain ⟨j, h4, h5⟩ := (ih y).mp h2
        exact ⟨j + 1, by omega, (wk_S a j x).mpr ⟨y, h1, h5, h3⟩⟩
    · rintro ⟨j, h1, h2⟩
      by_cases hj : j ≤ m
      · exact Or.inl ⟨j, hj, h2⟩
      · have : j = m + 1 := by omega
        subst this
        obtain ⟨y, h3, h4, h5⟩ := (wk_S a m x).mp h2
        exact Or.inr ⟨y, h3, (ih y).mpr ⟨m, Nat.le_refl _, h4⟩, h5⟩
/-- a house is so far: walks lead there in so many steps, and in no fewer -/
theorem ly_wk (h : wf n B) {a : Nat} (ha : a < n) (d x : Nat) : (ly B n a d).testBit x = true ↔ (wk B n a d).testBit x = true ∧ ∀ j, j < d → (wk B n a j).testBit x = false := by
  have hltn : ∀ j, j < n → B j < 2048 := fun j _ => wf_2048 h j
  have ha11 : a < 11 := Nat.lt_of_lt_of_le ha h.1
  cases d with
  | zero => exact ⟨fun q => ⟨q, fun j hj => absurd hj (by omega)⟩, fun q => q.1⟩
  | succ d =>
    simp only [ly]
    rw [nd_tb (rc_lt (pw_lt ha11) hltn (d + 1)), Bool.and_eq_true, Bool.not_eq_true', rc_wk]
    constructor
    · rintro ⟨⟨j, h1, h2⟩, h3⟩
      have h4 : ∀ i, i ≤ d → (wk B n a i).testBit x = false := fun i hi => by
        cases hb : (wk B n a i).testBit x with
        | false => rfl
        | true => rw [(rc_wk a x d).mpr ⟨i, hi, hb⟩] at h3; cases h3
      have : j = d + 1 := by
        rcases Nat.lt_or_ge d j with q | q
        · omega
        · rw [h4 j q] at h2; cases h2
      subst this
      exact ⟨h2, fun i hi => h4 i (by omega)⟩
    · rintro ⟨h1, h2⟩
      refine ⟨⟨d + 1, Nat.le_refl _, h1⟩, ?_⟩
      cases hb : (rc B n d (2 ^ a)).testBit x with
      | false => rfl
      | true =>
        obtain ⟨j, h3, h4⟩ := (rc_wk a x d).mp hb
        rw [h2 j (by omega)] at h4
        cases h4
/-- whatever is reached is so far for some number up to ten -/
theorem ly_ex (h : wf n B) {a : Nat} (ha : a < n) {m x : Nat} (hx : (wk B n a m).testBit x = true) : ∃ d, d ≤ m ∧ d ≤ 10 ∧ (ly B n a d).testBit x = true := by
  have hltn : ∀ j, j < n → B j < 2048 := fun j _ => wf_2048 h j
  have ha11 : a < 11 := Nat.lt_of_lt_of_le ha h.1
  have hm : ∃ d, d ≤ m ∧ (ly B n a d).testBit x = true := by
    induction m using Nat.strongRecOn with
    | ind m ih =>
      by_cases q : ∃ j, j < m ∧ (wk B n a j).testBit x = true
      · obtain ⟨j, h1, h2⟩ := q
        obtain ⟨d, h3, h4⟩ := ih j h1 h2
        exact ⟨d, by omega, h4⟩
      · refine ⟨m, Nat.le_refl _, (ly_wk h ha m x).mpr ⟨hx, fun j hj => ?_⟩⟩
        cases hb : (wk B n a j).testBit x with
        | false => rfl
        | true => exact absurd ⟨j, hj, hb⟩ q
  obtain ⟨d, h1, h2⟩ := hm
  refine ⟨d, h1, ?_, h2⟩
  rcases Nat.lt_or_ge 10 d with q | q
  · exfalso
    have hall : ∀ i, i < d → ¬ ly B n a (i + 1) = 0 := by
      intro i hi hz
      have := ly_stay ha11 hltn hz (d - (i + 1))
      rw [show i + 1 + (d - (i + 1)) = d by omega] at this
      rw [this] at h2
      simp at h2
    have := ly_10 ha11 hltn hall
    omega
  · exact q
theorem ly_uniq (h : wf n B) {a : Nat} (ha : a < n) {x d e : Nat} (h1 : (ly B n a d).testBit x = true) (h2 : (ly B n a e).testBit x = true) : d = e := by
  have q1 := (ly_wk h ha d x).mp h1
  have q2 := (ly_wk h ha e x).mp h2
  rcases Nat.lt_or_ge d e with q | q
  · rw [q2.2 d q] at q1; exact absurd q1.1 (by simp)
  · rcases Nat.lt_or_ge e d with q' | q'
    · rw [q1.2 e q'] at q2; exact absurd q2.1 (by simp)
    · omega
/-- odd walks back: an edge whose ends are equally far -/
theorem odd_edge (h : wf n B) {a : Nat} (ha : a < n) {L : Nat} (hL : L % 2 = 1) (hw : (wk B n a L).testBit a = true) : ∃ x y d, (B x).testBit y = true ∧ (ly B n a d).testBit x = true ∧ (ly B n a d).testBit y = true ∧ 2 * d + 1 ≤ L := by
  by_cases hno : ∃ x y d, (B x).testBit y = true ∧ (ly B n a d).testBit x = true ∧ (ly B n a d).testBit y = true ∧ 2 * d + 1 ≤ L
  · exact hno
  exfalso
  have key : ∀ i, i ≤ L → ∀ x, (wk B n a i).testBit x = true → (wk B n a (L - i)).testBit x = true → ∀ d, (ly B n a d).testBit x = true → d % 2 = i % 2 := by
    intro i
    induction i with
    | zero =>
      intro _ x h1 _ d hd
      rw [(wk_0 a x).mp h1] at hd
      have h0 : (ly B n a 0).testBit a = true := ly_00 a
      rw [ly_uniq h ha hd h0]
    | succ i ih =>
      intro hi y h1 h2 e he
      obtain ⟨x, hx0, hx1, hx2⟩ := (wk_S a i y).mp h1
      have hx3 : (wk B n a (L - i)).testBit x = true := by
        rw [show L - i = (L - (i + 1)) + 1 by omega]
        exact (wk_S a _ x).mpr ⟨y, wf_r h hx2, h2, wf_s h hx2⟩
      obtain ⟨d, hd1, -, hd⟩ := ly_ex h ha hx1
      obtain ⟨d', hd2, -, hd'⟩ := ly_ex h ha hx3
      have hdd := ly_uniq h ha hd hd'
      subst hdd
      obtain ⟨e1, he1, -, he1'⟩ := ly_ex h ha h1
      obtain ⟨e2, he2, -, he2'⟩ := ly_ex h ha h2
      have q1 := ly_uniq h ha he he1'
      have q2 := ly_uniq h ha he he2'
      have hp := ih (by omega) x hx1 hx3 d hd
      have hne : d ≠ e := fun q => by
        subst q
        exact hno ⟨x, y, d, hx2, hd, he, by omega⟩
      have w1 : (wk B n a (d + 1)).testBit y = true := (wk_S a d y).mpr ⟨x, hx0, ((ly_wk h ha d x).mp hd).1, hx2⟩
      have w2 : (wk B n a (e + 1)).testBit x = true := (wk_S a e x).mpr ⟨y, wf_r h hx2, ((ly_wk h ha e y).mp he).1, wf_s h hx2⟩
      have b1 : e ≤ d + 1 := by
        rcases Nat.lt_or_ge (d + 1) e with q | q
        · rw [((ly_wk h ha e y).mp he).2 (d + 1) q] at w1; cases w1
        · exact q
      have b2 : d ≤ e + 1 := by
        rcases Nat.lt_or_ge (e + 1) d with q | q
        · rw [((ly_wk h ha d x).mp hd).2 (e + 1) q] at w2; cases w2
        · exact q
      omega
  have := key L (Nat.le_refl _) a hw (by rw [Nat.sub_self]; exact (wk_0 a a).mpr rfl) 0 (ly_00 a)
  omega
theorem edge_odd (h : wf n B) {a : Nat} {x y d : Nat} (hxy : (B x).testBit y = true) (hx : (wk B n a d).testBit x = true) (hy : (wk B n a d).testBit y = true) : (wk B n a (2 * d + 1)).testBit a = true := by
  have h1 : (wk B n a (d + 1)).testBit y = true := (wk_S a d y).mpr ⟨x, wf_l h hxy, hx, hxy⟩
  have h2 := wk_join h (d + 1) d a y a h1 (wk_sym h d a y hy)
  rw [show d + 1 + d = 2 * d + 1 by omega] at h2
  exact h2
/-- the walks of the class: what is new of a parity -/
def fq (B : Nat → Nat) (n a : Nat) : Nat → Nat × Nat × Nat
  | 0 => (2 ^ a, 2 ^ a, 0)
  | m + 1 =>
    let p := fq B n a m
    if (m + 1) % 2 = 1 then (nd (ar B n p.1) p.2.2, p.2.1, p.2.2 ||| nd (ar B n p.1) p.2.2)
    else (nd (ar B n p.1) p.2.1, p.2.1 ||| nd (ar B n p.1) p.2.1, p.2.2)
theorem fq_spec (h : wf n B) {a : Nat} (ha : a < n) : ∀ m, (fq B n a m).1 < 2048 ∧ (fq B n a m).2.1 < 2048 ∧ (fq B n a m).2.2 < 2048 ∧ (∀ x, (fq B n a m).1.testBit x = true ↔ ((wk B n a m).testBit x = true ∧ ∀ j, j < m → j % 2 = m % 2 → (wk B n a j).testBit x = false)) ∧ (∀ x, (fq B n a m).2.1.testBit x = true ↔ ∃ j, j ≤ m ∧ j % 2 = 0 ∧ (wk B n a j).testBit x = true) ∧ (∀ x, (fq B n a m).2.2.testBit x = true ↔ ∃ j, j ≤ m ∧ j % 2 = 1 ∧ (wk B n a j).testBit x = true) := by
  have hltn : ∀ j, j < n → B j < 2048 := fun j _ => wf_2048 h j
  have ha11 : a < 11 := Nat.lt_of_lt_of_le ha h.1
  intro m
  induction m with
  | zero =>
    refine ⟨pw_lt ha11, pw_lt ha11, by simp [fq], fun x => ?_, fun x => ?_, fun x => ?_⟩
    · exact ⟨fun q => ⟨q, fun j hj => absurd hj (by omega)⟩, fun q => q.1⟩
    · refine ⟨fun q => ⟨0, by omega, rfl, q⟩, fun ⟨j, h1, _, h3⟩ => ?_⟩
      have : j = 0 := by omega
      subst this
      exact h3
    · simp only [fq, Nat.zero_testBit]
      exact ⟨fun q => absurd q (by simp), fun ⟨j, h1, h2, _⟩ => by omega⟩
  | succ m ih =>
    obtain ⟨l1, l2, l3, i1, i2, i3⟩ := ih
    have hal : ar B n (fq B n a m).1 < 2048 := ar_lt hltn
    have new : ∀ (S : Nat), (∀ x, S.testBit x = true ↔ ∃ j, j ≤ m ∧ j % 2 = (m + 1) % 2 ∧ (wk B n a j).testBit x = true) → ∀ x, (nd (ar B n (fq B n a m).1) S).testBit x = true ↔ ((wk B n a (m + 1)).testBit x = true ∧ ∀ j, j < m + 1 → j % 2 = (m + 1) % 2 → (wk B n a j).testBit x = false) := by
      intro S hS x
      rw [nd_tb hal, Bool.and_eq_true, Bool.not_eq_true', ar_tb]
      constructor
      · rintro ⟨⟨y, y1, y2, y3⟩, y4⟩
        refine ⟨(wk_S a m x).mpr ⟨y, y1, ((i1 y).mp y2).1, y3⟩, fun j hj hp => ?_⟩
        cases hb : (wk B n a j).testBit x with
        | false => rfl
        | true => rw [(hS x).mpr ⟨j, by omega, hp, hb⟩] at y4; cases y4
      · rintro ⟨y1, y2⟩
        obtain ⟨y, z1, z2, z3⟩ := (wk_S a m x).mp y1
        refine ⟨⟨y, z1, (i1 y).mpr ⟨z2, fun j hj hp => ?_⟩, z3⟩, ?_⟩
        · cases hb : (wk B n a j).testBit y with
          | false => rfl
          | true =>
            have := y2 (j + 1) (by omega) (by omega)
            rw [(wk_S a j x).mpr ⟨y, z1, hb, z3⟩] at this
            cases this
        · cases hb : S.testBit x with
          | false => rfl
          | true =>
            obtain ⟨j, w1, w2, w3⟩ := (hS x).mp hb
            rw [y2 j (by omega) w2] at w3
            cases w3
    have more : ∀ (S F p : Nat), p = (m + 1) % 2 → (∀ x, S.testBit x = true ↔ ∃ j, j ≤ m ∧ j % 2 = p ∧ (wk B n a j).testBit x = true) → (∀ x, F.testBit x = true ↔ ((wk B n a (m + 1)).testBit x = true ∧ ∀ j, j < m + 1 → j % 2 = (m + 1) % 2 → (wk B n a j).testBit x = false)) → ∀ x, (S ||| F).testBit x = true ↔ ∃ j, j ≤ m + 1 ∧ j % 2 = p ∧ (wk B n a j).testBit x = true := by
      intro S F p hp hS hF x
      rw [Nat.testBit_or, Bool.or_eq_true, hS, hF]
      constructor
      · rintro (⟨j, w1, w2, w3⟩ | ⟨w1, w2⟩)
        · exact ⟨j, by omega, w2, w3⟩
        · exact ⟨m + 1, by omega, hp.symm, w1⟩
      · rintro ⟨j, w1, w2, w3⟩
        by_cases q : ∃ i, i ≤ m ∧ i % 2 = p ∧ (wk B n a i).testBit x = true
        · exact Or.inl q
        · right
          have hj : j = m + 1 := by
            rcases Nat.lt_or_ge m j with q' | q'
            · omega
            · exact absurd ⟨j, q', w2, w3⟩ q
          subst hj
          refine ⟨w3, fun i hi hp' => ?_⟩
          cases hb : (wk B n a i).testBit x with
          | false => rfl
          | true => exact absurd ⟨i, by omega, by omega, hb⟩ q
    have stay : ∀ (S p : Nat), p ≠ (m + 1) % 2 → (∀ x, S.testBit x = true ↔ ∃ j, j ≤ m ∧ j % 2 = p ∧ (wk B n a j).testBit x = true) → ∀ x, S.testBit x = true ↔ ∃ j, j ≤ m + 1 ∧ j % 2 = p ∧ (wk B n a j).testBit x = true := by
      intro S p hp hS x
      rw [hS]
      constructor
      · rintro ⟨j, w1, w2, w3⟩; exact ⟨j, by omega, w2, w3⟩
      · rintro ⟨j, w1, w2, w3⟩
        have : j ≠ m + 1 := fun q => hp (by rw [← q]; exact w2.symm)
        exact ⟨j, by omega, w2, w3⟩
    by_cases hp : (m + 1) % 2 = 1
    · simp only [fq, if_pos hp]
      have hS : ∀ x, (fq B n a m).2.2.testBit x = true ↔ ∃ j, j ≤ m ∧ j % 2 = (m + 1) % 2 ∧ (wk B n a j).testBit x = true := by rw [hp]; exact i3
      have hF := new _ hS
      exact ⟨nd_lt hal, l2, or_lt l3 (nd_lt hal), hF, stay _ 0 (by omega) i2, more _ _ 1 hp.symm i3 hF⟩
    · have hp0 : (m + 1) % 2 = 0 := by omega
      simp only [fq, if_neg hp]
      have hS : ∀ x, (fq B n a m).2.1.testBit x = true ↔ ∃ j, j ≤ m ∧ j % 2 = (m + 1) % 2 ∧ (wk B n a j).testBit x = true := by rw [hp0]; exact i2
      have hF := new _ hS
      exact ⟨nd_lt hal, or_lt l2 (nd_lt hal), l3, hF, more _ _ 0 hp0.symm i2 hF, stay _ 1 (by omega) i3⟩
/-- L is the least odd number of steps by which a walk comes back -/
def ob (B : Nat → Nat) (n a L : Nat) : Prop := L % 2 = 1 ∧ (wk B n a L).testBit a = true ∧ ∀ j, j < L → j % 2 = 1 → (wk B n a j).testBit a = false
theorem ob_uniq {a L M : Nat} (h1 : ob B n a L) (h2 : ob B n a M) : L = M := by
  rcases Nat.lt_or_ge L M with q | q
  · have := h2.2.2 L q h1.1; rw [h1.2.1] at this; cases this
  · rcases Nat.lt_or_ge M L with q' | q'
    · have := h1.2.2 M q' h2.1; rw [h2.2.1] at this; cases this
    · omega
theorem ob_21 (h : wf n B) {a : Nat} (ha : a < n) {L : Nat} (h1 : ob B n a L) : L ≤ 21 := by
  obtain ⟨x, y, d, hxy, hx, hy, -⟩ := odd_edge h ha h1.1 h1.2.1
  have hx' := ((ly_wk h ha d x).mp hx).1
  have hy' := ((ly_wk h ha d y).mp hy).1
  obtain ⟨d', -, h10, hd'⟩ := ly_ex h ha hx'
  have := ly_uniq h ha hx hd'
  subst this
  have hw := edge_odd h hxy hx' hy'
  rcases Nat.lt_or_ge (2 * d + 1) L with q | q
  · rw [h1.2.2 _ q (by omega)] at hw; cases hw
  · omega
/-- by edges: the least 2 d + 1 -/
theorem ob_edge (h : wf n B) {a : Nat} (ha : a < n) {d x y : Nat} (hxy : (B x).testBit y = true) (hx : (ly B n a d).testBit x = true) (hy : (ly B n a d).testBit y = true) (hmin : ∀ x' y' d', (B x').testBit y' = true → (ly B n a d').testBit x' = true → (ly B n a d').testBit y' = true → d ≤ d') : ob B n a (2 * d + 1) := by
  refine ⟨by omega, edge_odd h hxy ((ly_wk h ha d x).mp hx).1 ((ly_wk h ha d y).mp hy).1, fun j hj hp => ?_⟩
  cases hb : (wk B n a j).testBit a with
  | false => rfl
  | true =>
    obtain ⟨x', y', d', q1, q2, q3, q4⟩ := odd_edge h ha hp hb
    have := hmin x' y' d' q1 q2 q3
    omega
end
