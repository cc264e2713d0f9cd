/-! towns that are alike: matches and their number -/
theorem sm_apd (f : Nat → Nat) (a : Nat) : ∀ b, sm f (a + b) = sm f a + sm (fun i => f (a + i)) b := by
  intro b
  induction b with
  | zero => rfl
  | succ b ih =>
    show sm f (a + b) + f (a + b) = sm f a + (sm (fun i => f (a + i)) b + f (a + b))
    omega
theorem sm_at {c i0 : Nat} : ∀ {n : Nat}, i0 < n → sm (fun i => if i = i0 then c else 0) n = c := by
  intro n
  induction n with
  | zero => intro h; omega
  | succ n ih =>
    intro h
    show sm (fun i => if i = i0 then c else 0) n + (if n = i0 then c else 0) = c
    by_cases q : n = i0
    · subst q
      have : sm (fun i => if i = n then c else 0) n = sm (fun _ => 0) n := sm_congr (fun j hj => by rw [if_neg (by omega)])
      rw [this, sm_0, if_pos rfl, Nat.zero_add]
    · rw [if_neg q, ih (by omega)]; rfl
theorem sm_perm {n : Nat} (hn : n ≤ 11) {g : Nat → Nat} (hg : pm n g) (f : Nat → Nat) : sm (fun i => f (g i)) n = sm f n := by
  have h1 : sm (fun i => f (g i)) n = sm (fun i => sm (fun x => if g i = x then f x else 0) n) n := sm_congr (fun i hi => by
    have : sm (fun x => if g i = x then f x else 0) n = sm (fun x => if x = g i then f (g i) else 0) n := sm_congr (fun x _ => by
      by_cases q : x = g i
      · subst q; rw [if_pos rfl]
      · rw [if_neg q, if_neg (fun e => q e.symm)])
    rw [this, sm_at (hg.1 i hi)])
  rw [h1, sm_swap]
  apply sm_congr
  intro x hx
  obtain ⟨i0, hi0, e⟩ := pm_sur hn hg hx
  have : sm (fun i => if g i = x then f x else 0) n = sm (fun i => if i = i0 then f x else 0) n := sm_congr (fun i hi => by
    by_cases q : i = i0
    · subst q; rw [if_pos e, if_pos rfl]
    · rw [if_neg q, if_neg (fun z => q (hg.2 i i0 hi hi0 (by rw [z, e])))])
  rw [this, sm_at hi0]
/-- p carries one town to the other -/
def isoE (n : Nat) (B D : Nat → Nat) (p : Nat → Nat) : Prop := pm n p ∧ ∀ i j, i < n → j < n → (B i).testBit j = (D (p i)).testBit (p j)
def cns (B D : Nat → Nat) (h : Nat) (m : Nat → Nat) : Prop := ∀ i j, i < h → j < h → (B i).testBit j = (D (m i)).testBit (m j)
def exI (n : Nat) (B D : Nat → Nat) (h : Nat) (m : Nat → Nat) : Prop := ∃ p, isoE n B D p ∧ ∀ i, i < h → p i = m i
section
variable {n : Nat} {B D : Nat → Nat}
theorem exI_n {m : Nat → Nat} (hb : bgn n n m) (hc : cns B D n m) : exI n B D n m := ⟨m, ⟨hb, hc⟩, fun _ _ => rfl⟩
theorem exI_step {h : Nat} {m : Nat → Nat} (hh : h < n) : exI n B D h m ↔ ∃ x, x < n ∧ (tk m h).testBit x = false ∧ exI n B D (h + 1) (upm m h x) := by
  constructor
  · rintro ⟨p, h1, h2⟩
    refine ⟨p h, h1.1.1 h hh, ?_, p, h1, fun i hi => ?_⟩
    · cases q : (tk m h).testBit (p h) with
      | false => rfl
      | true =>
        obtain ⟨i, z1, z2⟩ := (tk_tb m _ h).mp q
        have := h1.1.2 i h (by omega) hh (by rw [h2 i z1, z2])
        omega
    · by_cases q : i = h
      · subst q; rw [upm_s]
      · rw [upm_n q]; exact h2 i (by omega)
  · rintro ⟨x, -, -, p, h1, h2⟩
    exact ⟨p, h1, fun i hi => by rw [h2 i (by omega), upm_n (by omega)]⟩
theorem exI_fit {h x : Nat} {m : Nat → Nat} (hh : h < n) (he : exI n B D (h + 1) (upm m h x)) : ∀ i, i < h → (B i).testBit h = (D (m i)).testBit x := by
  obtain ⟨p, h1, h2⟩ := he
  intro i hi
  have e1 := h2 i (by omega)
  have e2 := h2 h (by omega)
  rw [upm_n (by omega)] at e1
  rw [upm_s] at e2
  rw [h1.2 i h (by omega) hh, e1, e2]
theorem iso_deg (hB : wf n B) (hD : wf n D) {p : Nat → Nat} (hp : isoE n B D p) {h : Nat} (hh : h < n) : bc 11 (B h) = bc 11 (D (p h)) := by
  have hn := hB.1
  rw [bc_11 hn (hB.2.1 h), bc_11 hn (hD.2.1 (p h)), bc_sm, bc_sm, ← sm_perm hn hp.1 (fun x => ((D (p h)).testBit x).toNat)]
  exact sm_congr (fun j hj => by rw [hp.2 h j hh hj])
theorem exI_deg (hB : wf n B) (hD : wf n D) {h x : Nat} {m : Nat → Nat} (hh : h < n) (he : exI n B D (h + 1) (upm m h x)) : bc 11 (B h) = bc 11 (D x) := by
  obtain ⟨p, h1, h2⟩ := he
  have e2 := h2 h (by omega)
  rw [upm_s] at e2
  rw [iso_deg hB hD h1 hh, e2]
theorem iso_dm (hB : wf n B) (hD : wf n D) {p : Nat → Nat} (hp : isoE n B D p) : dm n B = dm n D := by
  have hn := hB.1
  unfold dm
  rw [← sm_perm hn hp.1 (fun h => bc 11 (D h))]
  congr 1
  exact sm_congr (fun h hh => iso_deg hB hD hp hh)
theorem cns_up (hB : wf n B) (hD : wf n D) {h x : Nat} {m : Nat → Nat} (hc : cns B D h m) (hf : ∀ i, i < h → (B i).testBit h = (D (m i)).testBit x) : cns B D (h + 1) (upm m h x) := by
  intro i j hi hj
  by_cases q1 : i = h
  · by_cases q2 : j = h
    · subst q1; subst q2; rw [upm_s, hB.2.2.2.2, hD.2.2.2.2]
    · subst q1; rw [upm_s, upm_n q2, hB.2.2.2.1, hf j (by omega), hD.2.2.2.1]
  · by_cases q2 : j = h
    · subst q2; rw [upm_s, upm_n q1]; exact hf i (by omega)
    · rw [upm_n q1, upm_n q2]; exact hc i j (by omega) (by omega)
/-- how many matches go on from a beginning -/
def Nc (n : Nat) (B D : Nat → Nat) : Nat → Nat → (Nat → Nat) → Nat
  | 0, _, _ => 1
  | k + 1, h, m => sm (fun x => if (tk m h).testBit x = false ∧ ∀ i, i < h → (B h).testBit i = (D x).testBit (m i) then Nc n B D k (h + 1) (upm m h x) else 0) n
theorem upm_cg {m m' : Nat → Nat} {h x : Nat} (e : ∀ i, i < h → m i = m' i) : ∀ i, i < h + 1 → upm m h x i = upm m' h x i := fun i hi => by
  by_cases q : i = h
  · subst q; rw [upm_s, upm_s]
  · rw [upm_n q, upm_n q]; exact e i (by omega)
theorem Nc_congr : ∀ k h (m m' : Nat → Nat), (∀ i, i < h → m i = m' i) → Nc n B D k h m = Nc n B D k h m' := by
  intro k
  induction k with
  | zero => intro h m m' _; rfl
  | succ k ih =>
    intro h m m' e
    simp only [Nc]
    apply sm_congr
    intro x hx
    rw [tk_congr e, ih (h + 1) _ _ (upm_cg (x := x) e)]
    have : (∀ i, i < h → (B h).testBit i = (D x).testBit (m i)) ↔ (∀ i, i < h → (B h).testBit i = (D x).testBit (m' i)) := ⟨fun q i hi => by rw [← e i hi]; exact q i hi, fun q i hi => by rw [e i hi]; exact q i hi⟩
    simp only [this]
theorem Nc_le : ∀ k h (m : Nat → Nat), Nc n B D k h m ≤ n ^ k := by
  intro k
  induction k with
  | zero => intro h m; exact Nat.le_refl _
  | succ k ih =>
    intro h m
    simp only [Nc]
    have := sm_le (f := fun x => if (tk m h).testBit x = false ∧ ∀ i, i < h → (B h).testBit i = (D x).testBit (m i) then Nc n B D k (h + 1) (upm m h x) else 0) (c := n ^ k) (fun j => by
      split
      · exact ih _ _
      · exact Nat.zero_le _) n
    rw [Nat.pow_succ]; exact this
theorem sm_pos {f : Nat → Nat} : ∀ {n : Nat}, 0 < sm f n ↔ ∃ i, i < n ∧ 0 < f i := by
  intro n
  induction n with
  | zero =>
    constructor
    · intro h; exact absurd h (Nat.lt_irrefl 0)
    · rintro ⟨i, h, -⟩; omega
  | succ n ih =>
    have e : sm f (n + 1) = sm f n + f n := rfl
    rw [e]
    constructor
    · intro h
      by_cases q : 0 < sm f n
      · obtain ⟨i, h1, h2⟩ := ih.mp q
        exact ⟨i, by omega, h2⟩
      · exact ⟨n, by omega, by omega⟩
    · rintro ⟨i, h1, h2⟩
      by_cases q : i = n
      · subst q; omega
      · have := ih.mpr ⟨i, by omega, h2⟩
        omega
theorem Nc_pos (hB : wf n B) (hD : wf n D) : ∀ k h, h + k = n → ∀ m, bgn n h m → cns B D h m → (0 < Nc n B D k h m ↔ exI n B D h m) := by
  intro k
  induction k with
  | zero =>
    intro h hh m hb hc
    have : h = n := by omega
    subst this
    exact ⟨fun _ => exI_n hb hc, fun _ => Nat.one_pos⟩
  | succ k ih =>
    intro h hh m hb hc
    rw [exI_step (by omega)]
    simp only [Nc]
    rw [sm_pos]
    constructor
    · rintro ⟨x, hx, hp⟩
      by_cases q : (tk m h).testBit x = false ∧ ∀ i, i < h → (B h).testBit i = (D x).testBit (m i)
      · rw [if_pos q] at hp
        have hf : ∀ i, i < h → (B i).testBit h = (D (m i)).testBit x := fun i hi => by rw [hB.2.2.2.1, q.2 i hi, hD.2.2.2.1]
        exact ⟨x, hx, q.1, (ih (h + 1) (by omega) _ (bgn_up hb hx q.1) (cns_up hB hD hc hf)).mp hp⟩
      · rw [if_neg q] at hp; omega
    · rintro ⟨x, hx, q1, he⟩
      have hf := exI_fit (by omega) he
      have hf2 : ∀ i, i < h → (B h).testBit i = (D x).testBit (m i) := fun i hi => by rw [hB.2.2.2.1, hf i hi, hD.2.2.2.1]
      refine ⟨x, hx, ?_⟩
      rw [if_pos ⟨q1, hf2⟩]
      exact (ih (h + 1) (by omega) _ (bgn_up hb hx q1) (cns_up hB hD hc hf)).mpr he
/-- another match of the second town with itself changes no number -/
theorem Nc_comp (hn : n ≤ 11) {g : Nat → Nat} (hg : isoE n D D g) : ∀ k h, h + k = n → ∀ m, bgn n h m → Nc n B D k h (fun i => g (m i)) = Nc n B D k h m := by
  intro k
  induction k with
  | zero => intro h _ m _; rfl
  | succ k ih =>
    intro h hh m hb
    simp only [Nc]
    rw [← sm_perm hn hg.1 (fun x => if (tk (fun i => g (m i)) h).testBit x = false ∧ ∀ i, i < h → (B h).testBit i = (D x).testBit (g (m i)) then Nc n B D k (h + 1) (upm (fun i => g (m i)) h x) else 0)]
    apply sm_congr
    intro y hy
    have c1 : (tk (fun i => g (m i)) h).testBit (g y) = (tk m h).testBit y := by
      rw [Bool.eq_iff_iff, tk_tb, tk_tb]
      constructor
      · rintro ⟨i, z1, z2⟩; exact ⟨i, z1, hg.1.2 _ _ (hb.1 i z1) hy z2⟩
      · rintro ⟨i, z1, z2⟩; exact ⟨i, z1, by rw [z2]⟩
    have c2 : (∀ i, i < h → (B h).testBit i = (D (g y)).testBit (g (m i))) ↔ (∀ i, i < h → (B h).testBit i = (D y).testBit (m i)) := by
      constructor
      · intro q i hi; rw [q i hi, ← hg.2 y (m i) hy (hb.1 i hi)]
      · intro q i hi; rw [q i hi, ← hg.2 y (m i) hy (hb.1 i hi)]
    rw [c1]
    simp only [c2]
    by_cases q : (tk m h).testBit y = false ∧ ∀ i, i < h → (B h).testBit i = (D y).testBit (m i)
    · rw [if_pos q, if_pos q]
      rw [← ih (h + 1) (by omega) (upm m h y) (bgn_up hb hy q.1)]
      apply Nc_congr
      intro i hi
      by_cases z : i = h
      · subst z; rw [upm_s, upm_s]
      · rw [upm_n z, upm_n z]
    · rw [if_neg q, if_neg q]
noncomputable def exb (n : Nat) (B D : Nat → Nat) (h : Nat) (m : Nat → Nat) : Bool := @decide (exI n B D h m) (Classical.propDecidable _)
theorem exb_t {h : Nat} {m : Nat → Nat} : exb n B D h m = true ↔ exI n B D h m := by unfold exb; exact @decide_eq_true_iff _ (Classical.propDecidable _)
def idf : Nat → Nat := fun i => i
/-- to how many a house can go while those ahead of it stay -/
noncomputable def gos (n : Nat) (B : Nat → Nat) (h j : Nat) : Nat := 1 + sm (fun i => if exb n B B (h + 1) (upm idf h (h + 1 + i)) = true then 1 else 0) j
noncomputable def wys (n : Nat) (B : Nat → Nat) : Nat → Nat
  | 0 => 1
  | h + 1 => wys n B h * gos n B h (n - 1 - h)
theorem bgn_id {h : Nat} (hh : h ≤ n) : bgn n h idf := ⟨fun i hi => by unfold idf; omega, fun i j _ _ e => e⟩
theorem cns_id {h : Nat} : cns B B h idf := fun _ _ _ _ => rfl
theorem iso_id (n : Nat) (B : Nat → Nat) : isoE n B B idf := ⟨pm_id n, fun _ _ _ _ => rfl⟩
theorem tk_id (h x : Nat) : (tk idf h).testBit x = decide (x < h) := by
  rw [Bool.eq_iff_iff, tk_tb, decide_eq_true_eq]
  exact ⟨fun ⟨i, h1, h2⟩ => by unfold idf at h2; omega, fun q => ⟨x, q, rfl⟩⟩
theorem tk_idn (h : Nat) : tk idf h = 2 ^ h - 1 := by
  apply tb_eq
  intro x
  rw [tk_id, tb_all]
theorem Nc_split (hB : wf n B) {k h : Nat} (hh : h + (k + 1) = n) : Nc n B B (k + 1) h idf = gos n B h (n - 1 - h) * Nc n B B k (h + 1) idf := by
  have hn := hB.1
  have e : Nc n B B (k + 1) h idf = sm (fun x => (if (decide (h ≤ x) && exb n B B (h + 1) (upm idf h x)) = true then 1 else 0) * Nc n B B k (h + 1) idf) n := by
    simp only [Nc]
    apply sm_congr
    intro x hx
    by_cases q : (tk idf h).testBit x = false ∧ ∀ i, i < h → (B h).testBit i = (B x).testBit (idf i)
    · rw [if_pos q]
      have hx2 : h ≤ x := by have := q.1; rw [tk_id, decide_eq_false_iff_not] at this; omega
      have hf : ∀ i, i < h → (B i).testBit h = (B (idf i)).testBit x := fun i hi => by rw [hB.2.2.2.1, q.2 i hi, hB.2.2.2.1]
      have hpos := Nc_pos hB hB k (h + 1) (by omega) (upm idf h x) (bgn_up (bgn_id (by omega)) hx q.1) (cns_up hB hB cns_id hf)
      by_cases hex : exI n B B (h + 1) (upm idf h x)
      · rw [decide_eq_true hx2, exb_t.mpr hex, Bool.true_and, if_pos rfl, Nat.one_mul]
        obtain ⟨g, g1, g2⟩ := hex
        rw [← Nc_comp hn g1 k (h + 1) (by omega) idf (bgn_id (by omega))]
        apply Nc_congr
        intro i hi
        exact (g2 i hi).symm
      · have h0 : Nc n B B k (h + 1) (upm idf h x) = 0 := by
          apply Classical.byContradiction
          intro z
          exact hex (hpos.mp (by omega))
        have hb : exb n B B (h + 1) (upm idf h x) = false := by
          cases z : exb n B B (h + 1) (upm idf h x) with
          | false => rfl
          | true => exact absurd (exb_t.mp z) hex
        rw [h0, hb, Bool.and_false, if_neg (by simp), Nat.zero_mul]
    · rw [if_neg q]
      have hb : (decide (h ≤ x) && exb n B B (h + 1) (upm idf h x)) = false := by
        cases z : (decide (h ≤ x) && exb n B B (h + 1) (upm idf h x)) with
        | false => rfl
        | true =>
          rw [Bool.and_eq_true, decide_eq_true_eq] at z
          exfalso
          apply q
          refine ⟨by rw [tk_id, decide_eq_false (by omega)], fun i hi => ?_⟩
          have := exI_fit (by omega) (exb_t.mp z.2) i hi
          rw [hB.2.2.2.1, this, hB.2.2.2.1]
      rw [hb, if_neg (by simp), Nat.zero_mul]
  rw [e]
  have e2 : sm (fun x => (if (decide (h ≤ x) && exb n B B (h + 1) (upm idf h x)) = true then 1 else 0) * Nc n B B k (h + 1) idf) n = Nc n B B k (h + 1) idf * sm (fun x => if (decide (h ≤ x) && exb n B B (h + 1) (upm idf h x)) = true then 1 else 0) n := by
    rw [← sm_mulc]
    exact sm_congr (fun x _ => Nat.mul_comm _ _)
  rw [e2, Nat.mul_comm]
  congr 1
  have e3 := sm_apd (fun x => if (decide (h ≤ x) && exb n B B (h + 1) (upm idf h x)) = true then 1 else 0) (h + 1) (n - 1 - h)
  rw [show h + 1 + (n - 1 - h) = n by omega] at e3
  rw [e3]
  unfold gos
  congr 1
  · show sm (fun x => if (decide (h ≤ x) && exb n B B (h + 1) (upm idf h x)) = true then 1 else 0) h + (if (decide (h ≤ h) && exb n B B (h + 1) (upm idf h h)) = true then 1 else 0) = 1
    have z1 : sm (fun x => if (decide (h ≤ x) && exb n B B (h + 1) (upm idf h x)) = true then 1 else 0) h = 0 := by
      rw [sm_congr (g := fun _ => 0) (fun x hx => by rw [decide_eq_false (by omega), Bool.false_and, if_neg (by simp)]), sm_0]
    have z2 : exI n B B (h + 1) (upm idf h h) := ⟨idf, iso_id n B, fun i hi => by
      by_cases q : i = h
      · subst q; rw [upm_s]; rfl
      · rw [upm_n q]⟩
    rw [z1, decide_eq_true (Nat.le_refl h), exb_t.mpr z2]
    rfl
  · exact sm_congr (fun i _ => by rw [decide_eq_true (by omega), Bool.true_and])
theorem Nc_wys (hB : wf n B) : ∀ h, h ≤ n → wys n B h * Nc n B B (n - h) h idf = Nc n B B n 0 idf := by
  intro h
  induction h with
  | zero => intro _; show 1 * _ = _; rw [Nat.one_mul]; rfl
  | succ h ih =>
    intro hh
    rw [← ih (by omega)]
    have e := Nc_split hB (k := n - (h + 1)) (h := h) (by omega)
    rw [show n - (h + 1) + 1 = n - h by omega] at e
    rw [e]
    show wys n B h * gos n B h (n - 1 - h) * _ = _
    rw [Nat.mul_assoc]
theorem wys_Nc (hB : wf n B) : wys n B n = Nc n B B n 0 idf := by
  rw [← Nc_wys hB n (Nat.le_refl n), Nat.sub_self]
  show _ = wys n B n * 1
  rw [Nat.mul_one]
end
