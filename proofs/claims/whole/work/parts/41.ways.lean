/-! how many ways there are to colour -/
/-- the sum of w over the ways to colour those of p below m -/
def Cn (k : Nat) (p : Nat → Bool) : Nat → ((Nat → Nat) → Nat) → (Nat → Nat) → Nat
  | 0, w, κ => w κ
  | m + 1, w, κ => if p m = true then sm (fun e => Cn k p m w (un κ m e)) k else Cn k p m w κ
theorem un_same (κ : Nat → Nat) (h e : Nat) : un κ h e h = e := by unfold un; rw [if_pos rfl]
theorem un_other (κ : Nat → Nat) {h x : Nat} (e : Nat) (hx : x ≠ h) : un κ h e x = κ x := by unfold un; rw [if_neg hx]
theorem un_comm (κ : Nat → Nat) {h j : Nat} (e a : Nat) (hj : h ≠ j) : un (un κ h e) j a = un (un κ j a) h e := by
  funext x
  unfold un
  by_cases h1 : x = j
  · subst h1
    rw [if_pos rfl, if_neg (Ne.symm hj), if_pos rfl]
  · rw [if_neg h1]
    by_cases h2 : x = h
    · rw [if_pos h2, if_pos h2]
    · rw [if_neg h2, if_neg h2, if_neg h1]
theorem Cn_congr {k : Nat} {p : Nat → Bool} {w v : (Nat → Nat) → Nat} : ∀ {m : Nat} {κ : Nat → Nat}, (∀ c, (∀ x, x < m → p x = true → c x < k) → (∀ x, ¬ (x < m ∧ p x = true) → c x = κ x) → w c = v c) → Cn k p m w κ = Cn k p m v κ := by
  intro m
  induction m with
  | zero => intro κ h; exact h κ (fun x hx => absurd hx (by omega)) (fun x _ => rfl)
  | succ m ih =>
    intro κ h
    simp only [Cn]
    by_cases hp : p m = true
    · rw [if_pos hp, if_pos hp]
      refine sm_congr (fun e he => ih (fun c h1 h2 => h c (fun x hx hpx => ?_) (fun x hx => ?_)))
      · by_cases hxm : x = m
        · subst hxm
          rw [h2 x (by omega), un_same]; exact he
        · exact h1 x (by omega) hpx
      · have hxm : x ≠ m := fun q => hx ⟨by omega, by rw [q]; exact hp⟩
        rw [h2 x (fun q => hx ⟨by omega, q.2⟩), un_other _ _ hxm]
    · rw [if_neg hp, if_neg hp]
      refine ih (fun c h1 h2 => h c (fun x hx hpx => ?_) (fun x hx => h2 x (fun q => hx ⟨by omega, q.2⟩)))
      by_cases hxm : x = m
      · subst hxm; exact absurd hpx hp
      · exact h1 x (by omega) hpx
theorem Cn_p {k : Nat} {p q : Nat → Bool} {w : (Nat → Nat) → Nat} : ∀ {m : Nat} {κ : Nat → Nat}, (∀ x, x < m → p x = q x) → Cn k p m w κ = Cn k q m w κ := by
  intro m
  induction m with
  | zero => intro κ h; rfl
  | succ m ih =>
    intro κ h
    simp only [Cn, h m (by omega)]
    split
    · exact sm_congr (fun e he => ih (fun x hx => h x (by omega)))
    · exact ih (fun x hx => h x (by omega))
theorem Cn_sum {k : Nat} {p : Nat → Bool} (w : Nat → (Nat → Nat) → Nat) (r : Nat) : ∀ (m : Nat) (κ : Nat → Nat), Cn k p m (fun c => sm (fun e => w e c) r) κ = sm (fun e => Cn k p m (w e) κ) r := by
  intro m
  induction m with
  | zero => intro κ; rfl
  | succ m ih =>
    intro κ
    simp only [Cn, ih]
    split
    · exact sm_swap _ _ _
    · rfl
theorem Cn_mul {k : Nat} {p : Nat → Bool} (a : Nat) (w : (Nat → Nat) → Nat) : ∀ (m : Nat) (κ : Nat → Nat), Cn k p m (fun c => a * w c) κ = a * Cn k p m w κ := by
  intro m
  induction m with
  | zero => intro κ; rfl
  | succ m ih =>
    intro κ
    simp only [Cn, ih]
    split
    · exact sm_mulc _ _ _
    · rfl
theorem Cn_add {k : Nat} {p : Nat → Bool} (w v : (Nat → Nat) → Nat) : ∀ (m : Nat) (κ : Nat → Nat), Cn k p m (fun c => w c + v c) κ = Cn k p m w κ + Cn k p m v κ := by
  intro m
  induction m with
  | zero => intro κ; rfl
  | succ m ih =>
    intro κ
    simp only [Cn, ih]
    split
    · exact sm_add _ _ _
    · rfl
theorem Cn_un {k : Nat} {p : Nat → Bool} (w : (Nat → Nat) → Nat) (v e : Nat) : ∀ (m : Nat) (κ : Nat → Nat), m ≤ v → Cn k p m w (un κ v e) = Cn k p m (fun c => w (un c v e)) κ := by
  intro m
  induction m with
  | zero => intro κ _; rfl
  | succ m ih =>
    intro κ hv
    simp only [Cn]
    split
    · exact sm_congr (fun a _ => by rw [un_comm κ e a (by omega), ih _ (by omega)])
    · exact ih _ (by omega)
/-- without one -/
def woh (p : Nat → Bool) (v : Nat) : Nat → Bool := fun x => p x && decide (x ≠ v)
theorem woh_t {p : Nat → Bool} {v x : Nat} : woh p v x = true ↔ p x = true ∧ x ≠ v := by
  unfold woh
  rw [Bool.and_eq_true, decide_eq_true_eq]
/-- the colour of one, taken out before -/
theorem Cn_pull {k : Nat} {p : Nat → Bool} {v : Nat} (hp : p v = true) (w : (Nat → Nat) → Nat) : ∀ (m : Nat) (κ : Nat → Nat), v < m → Cn k p m w κ = sm (fun e => Cn k (woh p v) m (fun c => w (un c v e)) κ) k := by
  intro m
  induction m with
  | zero => intro κ h; omega
  | succ m ih =>
    intro κ h
    by_cases hvm : v = m
    · subst hvm
      have h0 : ¬ woh p v v = true := fun q => (woh_t.mp q).2 rfl
      simp only [Cn]
      rw [if_pos hp]
      refine sm_congr (fun e _ => ?_)
      rw [if_neg h0, Cn_un _ _ _ _ _ (Nat.le_refl _)]
      exact Cn_p (fun x hx => by unfold woh; rw [decide_eq_true (show x ≠ v by omega), Bool.and_true])
    · have hm : woh p v m = p m := by unfold woh; rw [decide_eq_true (show m ≠ v by omega), Bool.and_true]
      simp only [Cn, hm]
      split
      · rw [← sm_swap]
        exact sm_congr (fun a _ => ih _ (by omega))
      · exact ih _ (by omega)
/-- 1 or 0 -/
noncomputable def ic (q : Prop) : Nat := @ite Nat q (Classical.propDecidable q) 1 0
theorem ic_t {q : Prop} (h : q) : ic q = 1 := @if_pos q (Classical.propDecidable q) h Nat 1 0
theorem ic_f {q : Prop} (h : ¬ q) : ic q = 0 := @if_neg q (Classical.propDecidable q) h Nat 1 0
theorem ic_iff {q r : Prop} (h : q ↔ r) : ic q = ic r := by rw [propext h]
theorem ic_and {q r : Prop} : ic (q ∧ r) = ic q * ic r := by
  by_cases h1 : q
  · by_cases h2 : r
    · rw [ic_t h1, ic_t h2, ic_t ⟨h1, h2⟩]
    · rw [ic_t h1, ic_f h2, ic_f (fun z => h2 z.2)]
  · rw [ic_f h1, ic_f (fun z => h1 z.1), Nat.zero_mul]
theorem ic_split {q r : Prop} : ic q = ic (q ∧ ¬ r) + ic (q ∧ r) := by
  by_cases h1 : q
  · by_cases h2 : r
    · rw [ic_t h1, ic_f (q := q ∧ ¬ r) (fun z => z.2 h2), ic_t ⟨h1, h2⟩]
    · rw [ic_t h1, ic_f (q := q ∧ r) (fun z => h2 z.2), ic_t ⟨h1, h2⟩]
  · rw [ic_f h1, ic_f (q := q ∧ r) (fun z => h1 z.1), ic_f (q := q ∧ ¬ r) (fun z => h1 z.1)]
/-- e that is one number below k -/
theorem sm_ic {k a : Nat} (ha : a < k) (f : Nat → Nat) : sm (fun e => f e * ic (a = e)) k = f a := by
  induction k with
  | zero => omega
  | succ k ih =>
    simp only [sm]
    by_cases hak : a = k
    · subst hak
      rw [ic_t rfl, Nat.mul_one, sm_congr (g := fun _ => 0) (fun j hj => by rw [ic_f (by omega), Nat.mul_zero]), sm_0, Nat.zero_add]
    · rw [ih (by omega), ic_f hak, Nat.mul_zero, Nat.add_zero]
/-- neighbours have different colours -/
def fit (R : Nat → Nat → Prop) (p : Nat → Bool) (n : Nat) (c : Nat → Nat) : Prop := ∀ x y, x < n → y < n → p x = true → p y = true → R x y → c x ≠ c y
noncomputable def Wy (R : Nat → Nat → Prop) (n : Nat) (p : Nat → Bool) (k : Nat) : Nat := Cn k p n (fun c => ic (fit R p n c)) (fun _ => 0)
theorem Wy_congr {R Q : Nat → Nat → Prop} {n k : Nat} {p q : Nat → Bool} (hp : ∀ x, x < n → p x = q x) (hR : ∀ x y, x < n → y < n → p x = true → p y = true → (R x y ↔ Q x y)) : Wy R n p k = Wy Q n q k := by
  unfold Wy
  rw [Cn_p hp]
  refine Cn_congr (fun c _ _ => ic_iff ?_)
  constructor
  · intro h x y hx hy h1 h2 h3
    exact h x y hx hy (by rw [hp x hx]; exact h1) (by rw [hp y hy]; exact h2) ((hR x y hx hy (by rw [hp x hx]; exact h1) (by rw [hp y hy]; exact h2)).mpr h3)
  · intro h x y hx hy h1 h2 h3
    exact h x y hx hy (by rw [← hp x hx]; exact h1) (by rw [← hp y hy]; exact h2) ((hR x y hx hy h1 h2).mp h3)
/-- two strangers: befriended, or one -/
theorem Wy_two {R Q T : Nat → Nat → Prop} {n k u v : Nat} {p : Nat → Bool} (hu : u < n) (hv : v < n) (huv : u ≠ v) (pu : p u = true) (pv : p v = true) (hs : ∀ x y, R x y → R y x) (hno : ¬ R v u) (hvv : ¬ R v v) (hQ : ∀ x y, x < n → y < n → p x = true → p y = true → (Q x y ↔ R x y ∨ (x = u ∧ y = v) ∨ (x = v ∧ y = u))) (hT : ∀ x y, x < n → y < n → p x = true → p y = true → x ≠ v → y ≠ v → (T x y ↔ R x y ∨ (x = u ∧ R v y) ∨ (y = u ∧ R v x))) : Wy R n p k = Wy Q n p k + Wy T n (woh p v) k := by
  have e1 : Wy R n p k = Cn k p n (fun c => ic (fit R p n c ∧ ¬ c u = c v)) (fun _ => 0) + Cn k p n (fun c => ic (fit R p n c ∧ c u = c v)) (fun _ => 0) := by
    unfold Wy
    rw [← Cn_add]
    exact Cn_congr (fun c _ _ => ic_split)
  have e2 : Cn k p n (fun c => ic (fit R p n c ∧ ¬ c u = c v)) (fun _ => 0) = Wy Q n p k := by
    unfold Wy
    refine Cn_congr (fun c _ _ => ic_iff ?_)
    constructor
    · rintro ⟨h1, h2⟩ x y hx hy hpx hpy hq
      rcases (hQ x y hx hy hpx hpy).mp hq with h | ⟨rfl, rfl⟩ | ⟨rfl, rfl⟩
      · exact h1 x y hx hy hpx hpy h
      · exact h2
      · exact fun z => h2 z.symm
    · intro h
      exact ⟨fun x y hx hy hpx hpy hr => h x y hx hy hpx hpy ((hQ x y hx hy hpx hpy).mpr (Or.inl hr)), h u v hu hv pu pv ((hQ u v hu hv pu pv).mpr (Or.inr (Or.inl ⟨rfl, rfl⟩)))⟩
  have e3 : Cn k p n (fun c => ic (fit R p n c ∧ c u = c v)) (fun _ => 0) = Wy T n (woh p v) k := by
    unfold Wy
    rw [Cn_pull pv _ _ _ hv, ← Cn_sum]
    refine Cn_congr (fun c hc _ => ?_)
    have hcu : c u < k := hc u hu (woh_t.mpr ⟨pu, huv⟩)
    have : ∀ e, ic (fit R p n (un c v e) ∧ un c v e u = un c v e v) = ic (fit R p n (un c v e)) * ic (c u = e) := fun e => by
      rw [ic_and, un_same, un_other _ _ huv]
    simp only [this]
    rw [sm_ic hcu (fun e => ic (fit R p n (un c v e)))]
    refine ic_iff ⟨fun h x y hx hy hpx hpy ht => ?_, fun h x y hx hy hpx hpy hr => ?_⟩
    · obtain ⟨px, nx⟩ := woh_t.mp hpx
      obtain ⟨py, ny⟩ := woh_t.mp hpy
      rcases (hT x y hx hy px py nx ny).mp ht with q | ⟨rfl, q⟩ | ⟨rfl, q⟩
      · have := h x y hx hy px py q
        rwa [un_other _ _ nx, un_other _ _ ny] at this
      · have := h v y hv hy pv py q
        rwa [un_same, un_other _ _ ny] at this
      · have := h v x hv hx pv px q
        rw [un_same, un_other _ _ nx] at this
        exact fun z => this z.symm
    · by_cases nx : x = v
      · subst nx
        have ny : y ≠ x := fun z => hvv (by rw [z] at hr; exact hr)
        have nyu : y ≠ u := fun z => hno (by rw [z] at hr; exact hr)
        rw [un_same, un_other _ _ ny]
        exact h u y hu hy (woh_t.mpr ⟨pu, huv⟩) (woh_t.mpr ⟨hpy, ny⟩) ((hT u y hu hy pu hpy huv ny).mpr (Or.inr (Or.inl ⟨rfl, hr⟩)))
      · by_cases ny : y = v
        · subst ny
          rw [un_same, un_other _ _ nx]
          exact h x u hx hu (woh_t.mpr ⟨hpx, nx⟩) (woh_t.mpr ⟨pu, huv⟩) ((hT x u hx hu hpx pu nx huv).mpr (Or.inr (Or.inr ⟨rfl, hs _ _ hr⟩)))
        · rw [un_other _ _ nx, un_other _ _ ny]
          exact h x y hx hy (woh_t.mpr ⟨hpx, nx⟩) (woh_t.mpr ⟨hpy, ny⟩) ((hT x y hx hy hpx hpy nx ny).mpr (Or.inl hr))
  rw [e1, e2, e3]
/-- the colours that friends of each other take -/
theorem sm_taken {k : Nat} {c : Nat → Nat} {N : Nat → Bool} : ∀ {m : Nat}, (∀ x, x < m → N x = true → c x < k) → (∀ x y, x < m → y < m → N x = true → N y = true → x ≠ y → c x ≠ c y) → sm (fun e => ic (∃ x, x < m ∧ N x = true ∧ c x = e)) k = sm (fun x => (N x).toNat) m := by
  intro m
  induction m with
  | zero =>
    intro _ _
    rw [sm_congr (g := fun _ => 0) (fun e _ => ic_f (fun ⟨x, h, _⟩ => by omega)), sm_0]
    rfl
  | succ m ih =>
    intro h1 h2
    simp only [sm]
    rw [← ih (fun x hx => h1 x (by omega)) (fun x y hx hy => h2 x y (by omega) (by omega))]
    cases hN : N m with
    | false =>
      refine sm_congr (fun e _ => ic_iff ⟨fun ⟨x, hx, hx2, hx3⟩ => ⟨x, ?_, hx2, hx3⟩, fun ⟨x, hx, hx2⟩ => ⟨x, by omega, hx2⟩⟩)
      have : x ≠ m := fun z => by rw [z, hN] at hx2; cases hx2
      omega
    | true =>
      have hm := h1 m (by omega) hN
      have := sm_ic hm (fun _ => 1)
      show _ = _ + 1
      rw [← this, ← sm_add]
      refine sm_congr (fun e _ => ?_)
      rw [Nat.one_mul]
      by_cases he : c m = e
      · rw [ic_t he, ic_t ⟨m, by omega, hN, he⟩, ic_f]
        rintro ⟨x, hx, hx2, hx3⟩
        exact h2 x m (by omega) (by omega) hx2 hN (by omega) (by rw [hx3, he])
      · rw [ic_f he, Nat.add_zero]
        refine ic_iff ⟨fun ⟨x, hx, hx2, hx3⟩ => ⟨x, ?_, hx2, hx3⟩, fun ⟨x, hx, hx2⟩ => ⟨x, by omega, hx2⟩⟩
        have : x ≠ m := fun z => he (by rw [← z]; exact hx3)
        omega
/-- one whose friends are friends of each other -/
theorem Wy_one {R : Nat → Nat → Prop} {n k v : Nat} {p N : Nat → Bool} (hv : v < n) (pv : p v = true) (hs : ∀ x y, R x y → R y x) (hvv : ¬ R v v) (hN : ∀ x, x < n → (N x = true ↔ p x = true ∧ R v x)) (hcl : ∀ x y, x < n → y < n → N x = true → N y = true → x ≠ y → R x y) : Wy R n p k = (k - sm (fun x => (N x).toNat) n) * Wy R n (woh p v) k := by
  unfold Wy
  rw [Cn_pull pv _ _ _ hv, ← Cn_sum, ← Cn_mul]
  refine Cn_congr (fun c hc _ => ?_)
  have key : ∀ e, ic (fit R p n (un c v e)) = ic (fit R (woh p v) n c) * ic (¬ ∃ x, x < n ∧ N x = true ∧ c x = e) := fun e => by
    rw [← ic_and]
    refine ic_iff ⟨fun h => ⟨fun x y hx hy hpx hpy hr => ?_, ?_⟩, fun ⟨h1, h2⟩ x y hx hy hpx hpy hr => ?_⟩
    · obtain ⟨px, nx⟩ := woh_t.mp hpx
      obtain ⟨py, ny⟩ := woh_t.mp hpy
      have := h x y hx hy px py hr
      rwa [un_other _ _ nx, un_other _ _ ny] at this
    · rintro ⟨x, hx, hx2, hx3⟩
      obtain ⟨px, hr⟩ := (hN x hx).mp hx2
      have nx : x ≠ v := fun z => hvv (by rw [z] at hr; exact hr)
      have := h v x hv hx pv px hr
      rw [un_same, un_other _ _ nx] at this
      exact this hx3.symm
    · by_cases nx : x = v
      · subst nx
        have ny : y ≠ x := fun z => hvv (by rw [z] at hr; exact hr)
        rw [un_same, un_other _ _ ny]
        exact fun z => h2 ⟨y, hy, (hN y hy).mpr ⟨hpy, hr⟩, z.symm⟩
      · by_cases ny : y = v
        · subst ny
          rw [un_same, un_other _ _ nx]
          exact fun z => h2 ⟨x, hx, (hN x hx).mpr ⟨hpx, hs _ _ hr⟩, z⟩
        · rw [un_other _ _ nx, un_other _ _ ny]
          exact h1 x y hx hy (woh_t.mpr ⟨hpx, nx⟩) (woh_t.mpr ⟨hpy, ny⟩) hr
  simp only [key]
  rw [sm_mulc, Nat.mul_comm]
  by_cases hf : fit R (woh p v) n c
  · have hNw : ∀ x, x < n → N x = true → woh p v x = true := fun x hx h => by
      obtain ⟨px, hr⟩ := (hN x hx).mp h
      exact woh_t.mpr ⟨px, fun z => hvv (by rw [z] at hr; exact hr)⟩
    have t1 := sm_taken (k := k) (c := c) (N := N) (m := n) (fun x hx h => hc x hx (hNw x hx h)) (fun x y hx hy h1 h2 h3 => hf x y hx hy (hNw x hx h1) (hNw y hy h2) (hcl x y hx hy h1 h2 h3))
    have t2 : sm (fun e => ic (¬ ∃ x, x < n ∧ N x = true ∧ c x = e)) k + sm (fun e => ic (∃ x, x < n ∧ N x = true ∧ c x = e)) k = k := by
      rw [← sm_add, sm_congr (g := fun _ => 1) (fun e _ => ?_), sm_one, Nat.one_mul]
      by_cases h : ∃ x, x < n ∧ N x = true ∧ c x = e
      · rw [ic_t h, ic_f (fun z => z h)]
      · rw [ic_f h, ic_t h]
    congr 1
    omega
  · rw [ic_f hf, Nat.mul_zero, Nat.mul_zero]
