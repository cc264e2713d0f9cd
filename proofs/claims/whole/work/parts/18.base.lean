/-! tools for the shallow functions -/
theorem bft (b : Bool) : (b = false ∨ b = true) = True := by cases b <;> simp
theorem px_obj_s (c a : Nat) : px_obj (some (.inl c)) a = (c = a) := rfl
theorem px_av_0 (σ : px_M) (r j : Nat) : px_av 0 σ r j = σ.1 r j := rfl
theorem px_av_1 (σ : px_M) (r j : Nat) : px_av 1 σ r j = σ.1 r j := rfl
theorem px_av_2 (σ : px_M) (r j : Nat) : px_av 2 σ r j = σ.1 r j := rfl
theorem px_av_10 (σ : px_M) (r j : Nat) : px_av 10 σ r j = pn_xv r j := rfl
theorem px_av_11 (σ : px_M) (r j : Nat) : px_av 11 σ r j = pn_xv r j := rfl
theorem wi_1 (σ : px_M) (a b : Nat) (v : Int32) : (px_wi σ a b v).1 = px_up σ.1 a b v := rfl
theorem wi_2 (σ : px_M) (a b : Nat) (v : Int32) : (px_wi σ a b v).2 = σ.2 := rfl
theorem wl_1 (σ : px_M) (a b : Nat) (v : Int64) : (px_wl σ a b v).1 = σ.1 := rfl
theorem wl_21 (σ : px_M) (a b : Nat) (v : Int64) : (px_wl σ a b v).2.1 = px_up σ.2.1 a b v := rfl
theorem wl_22 (σ : px_M) (a b : Nat) (v : Int64) : (px_wl σ a b v).2.2 = σ.2.2 := rfl
theorem wr_1 (σ : px_M) (a b : Nat) (v : Option Nat) : (px_wr σ a b v).1 = σ.1 := rfl
theorem wr_21 (σ : px_M) (a b : Nat) (v : Option Nat) : (px_wr σ a b v).2.1 = σ.2.1 := rfl
theorem wr_22 (σ : px_M) (a b : Nat) (v : Option Nat) : (px_wr σ a b v).2.2 = px_up σ.2.2 a b v := rfl
/-- a loop whose states are known one by one, up to where it ends -/
theorem lp_to {α β : Type} {F : α → Option (α ⊕ β)} {b : β} (I : Nat → α) (n : Nat) (st : ∀ i, i < n → F (I i) = some (.inl (I (i + 1)))) (en : F (I n) = some (.inr b)) : ∀ i, i ≤ n → lpO F (I i) = some b := by
  have key : ∀ m i, i + m = n → lpO F (I i) = some b := by
    intro m
    induction m with
    | zero => intro i hi; have : i = n := by omega
              subst this; rw [lpO_eq, en]; rfl
    | succ m ih => intro i hi; rw [lpO_eq, st i (by omega)]; exact ih (i + 1) (by omega)
  intro i hi
  exact key (n - i) i (by omega)
/-- a loop by what holds at each round; it ends at the latest at round n -/
theorem lp_rel {α β : Type} {F : α → Option (α ⊕ β)} (I : Nat → α → Prop) (Q : β → Prop) (n : Nat) (st : ∀ j a, j ≤ n → I j a → (∃ a', F a = some (.inl a') ∧ j < n ∧ I (j + 1) a') ∨ ∃ b, F a = some (.inr b) ∧ Q b) : ∀ j a, j ≤ n → I j a → ∃ b, lpO F a = some b ∧ Q b := by
  have key : ∀ m j a, j + m = n → I j a → ∃ b, lpO F a = some b ∧ Q b := by
    intro m
    induction m with
    | zero =>
      intro j a hj hI
      rcases st j a (by omega) hI with ⟨a', -, h2, -⟩ | ⟨b, h1, h2⟩
      · omega
      · exact ⟨b, by rw [lpO_eq, h1]; rfl, h2⟩
    | succ m ih =>
      intro j a hj hI
      rcases st j a (by omega) hI with ⟨a', h1, h2, h3⟩ | ⟨b, h1, h2⟩
      · obtain ⟨b, hb, hQ⟩ := ih (j + 1) a' (by omega) h3
        exact ⟨b, by rw [lpO_eq, h1]; exact hb, hQ⟩
      · exact ⟨b, by rw [lpO_eq, h1]; rfl, h2⟩
  intro j a hj hI
  exact key (n - j) j a (by omega) hI
/-- a loop that runs to n -/
theorem lp_for {α β : Type} {F : α → Option (α ⊕ β)} (I : Nat → α → Prop) (Q : β → Prop) (n : Nat) (st : ∀ j a, j < n → I j a → ∃ a', F a = some (.inl a') ∧ I (j + 1) a') (en : ∀ a, I n a → ∃ b, F a = some (.inr b) ∧ Q b) : ∀ j a, j ≤ n → I j a → ∃ b, lpO F a = some b ∧ Q b := by
  refine lp_rel I Q n (fun j a hj hI => ?_)
  rcases Nat.lt_or_eq_of_le hj with q | q
  · obtain ⟨a', h1, h2⟩ := st j a q hI
    exact Or.inl ⟨a', h1, q, h2⟩
  · subst q
    exact Or.inr (en a hI)
/-- the references that calls may change: those of the class's helpers to towns and rules -/
def DR (l j : Nat) : Bool := (l == 210 && (j == 5 || j == 6 || j == 7)) || ((l == 170 || l == 211) && j == 2) || (l == 180 && j == 3) || (l == 190 && (j == 1 || j == 2))
/-- what may have changed: cells and slots of which S says so -/
def fr (S : Nat → Nat → Bool) (σ τ : px_M) : Prop := (∀ l j, S l j = false → τ.1 l j = σ.1 l j) ∧ (∀ l j, S l j = false → τ.2.1 l j = σ.2.1 l j) ∧ ∀ l j, S l j = false ∨ DR l j = false → τ.2.2 l j = σ.2.2 l j
theorem fr_rf (S : Nat → Nat → Bool) (σ : px_M) : fr S σ σ := ⟨fun _ _ _ => rfl, fun _ _ _ => rfl, fun _ _ _ => rfl⟩
theorem fr_tr {S : Nat → Nat → Bool} {σ τ υ : px_M} (h1 : fr S σ τ) (h2 : fr S τ υ) : fr S σ υ := ⟨fun l j h => (h2.1 l j h).trans (h1.1 l j h), fun l j h => (h2.2.1 l j h).trans (h1.2.1 l j h), fun l j h => (h2.2.2 l j h).trans (h1.2.2 l j h)⟩
theorem fr_mono {S T : Nat → Nat → Bool} {σ τ : px_M} (h : fr S σ τ) (hST : ∀ l j, T l j = false → S l j = false) : fr T σ τ := ⟨fun l j q => h.1 l j (hST l j q), fun l j q => h.2.1 l j (hST l j q), fun l j q => h.2.2 l j (q.imp (hST l j) id)⟩
theorem fr_wi {S : Nat → Nat → Bool} {σ τ : px_M} (h : fr S σ τ) {l j : Nat} (v : Int32) (hS : S l j = true) : fr S σ (px_wi τ l j v) := ⟨fun a b q => by
    show px_up τ.1 l j v a b = _
    rw [px_up_n (fun z => by rw [z.1, z.2, hS] at q; cases q)]
    exact h.1 a b q, h.2.1, h.2.2⟩
theorem fr_wl {S : Nat → Nat → Bool} {σ τ : px_M} (h : fr S σ τ) {l j : Nat} (v : Int64) (hS : S l j = true) : fr S σ (px_wl τ l j v) := ⟨h.1, fun a b q => by
    show px_up τ.2.1 l j v a b = _
    rw [px_up_n (fun z => by rw [z.1, z.2, hS] at q; cases q)]
    exact h.2.1 a b q, h.2.2⟩
theorem fr_wr {S : Nat → Nat → Bool} {σ τ : px_M} (h : fr S σ τ) {l j : Nat} (v : Option Nat) (hS : S l j = true) (hD : DR l j = true) : fr S σ (px_wr τ l j v) := ⟨h.1, h.2.1, fun a b q => by
    show px_up τ.2.2 l j v a b = _
    rw [px_up_n (fun z => by rw [z.1, z.2, hS, hD] at q; simp at q)]
    exact h.2.2 a b q⟩
/-- one row alone -/
def on (k : Nat) (l _ : Nat) : Bool := l == k
/-- what the model's calls work on, and what the class's do -/
def SM (l j : Nat) : Bool := (l == 0 && (j == 0 || j == 21 || j == 22 || j == 29 || j == 30 || j == 32 || j == 33 || j == 34)) || l == 15 || l == 16 || l == 17 || l == 18 || l == 19 || l == 20 || l == 23 || l == 24 || l == 25 || l == 26 || l == 27 || l == 28 || l == 31
def SC (l _ : Nat) : Bool := decide (160 ≤ l) && decide (l < 242)
theorem mR_D : ∀ q ∈ mR_l, DR q.1 q.2.1 = false := by decide
theorem cR_D : ∀ q ∈ cR_l, DR q.1 q.2.1 = false := by decide
theorem mR_fr {S : Nat → Nat → Bool} {σ τ : px_M} (h : fr S σ τ) (hR : mR σ.2.2) : mR τ.2.2 := fun q hq => by rw [h.2.2 q.1 q.2.1 (Or.inr (mR_D q hq))]; exact hR q hq
theorem cR_fr {S : Nat → Nat → Bool} {σ τ : px_M} (h : fr S σ τ) (hR : cR σ.2.2) : cR τ.2.2 := fun q hq => by rw [h.2.2 q.1 q.2.1 (Or.inr (cR_D q hq))]; exact hR q hq
/-- the model's memory, and the town in its row: n houses, B their neighbours -/
def mo (σ : px_M) (n : Nat) (B : Nat → Nat) : Prop := mR σ.2.2 ∧ wf n B ∧ σ.1 1 1 = nI n ∧ ∀ h, h < 11 → σ.1 1 (2 + h) = nI (B h)
theorem mo_fr {S : Nat → Nat → Bool} {σ τ : px_M} {n : Nat} {B : Nat → Nat} (h : fr S σ τ) (h1 : ∀ j, S 1 j = false) (hm : mo σ n B) : mo τ n B := ⟨mR_fr h hm.1, hm.2.1, by rw [h.1 1 1 (h1 1)]; exact hm.2.2.1, fun a ha => by rw [h.1 1 (2 + a) (h1 _)]; exact hm.2.2.2 a ha⟩
/-- a town of the class, at label t -/
def ct (σ : px_M) (t n : Nat) (B : Nat → Nat) : Prop := px_lay tT t = some (.inl 11) ∧ px_lay tT (t + 1) = some (.inr (0, 11)) ∧ σ.2.2 t 1 = some (t + 1) ∧ wf n B ∧ σ.1 t 0 = nI n ∧ ∀ h, h < 11 → σ.1 (t + 1) h = nI (B h)
theorem ct_fr {S : Nat → Nat → Bool} {σ τ : px_M} {t n : Nat} {B : Nat → Nat} (h : fr S σ τ) (h1 : ∀ j, S t j = false) (h2 : ∀ j, S (t + 1) j = false) (hc : ct σ t n B) : ct τ t n B := ⟨hc.1, hc.2.1, by rw [h.2.2 t 1 (Or.inl (h1 1))]; exact hc.2.2.1, hc.2.2.2.1, by rw [h.1 t 0 (h1 0)]; exact hc.2.2.2.2.1, fun a ha => by rw [h.1 (t + 1) a (h2 a)]; exact hc.2.2.2.2.2 a ha⟩
theorem mo_SM {σ τ : px_M} {n : Nat} {B : Nat → Nat} (h : fr SM σ τ) (hm : mo σ n B) : mo τ n B := mo_fr h (fun _ => by simp [SM]) hm
theorem mo_SC {σ τ : px_M} {n : Nat} {B : Nat → Nat} (h : fr SC σ τ) (hm : mo σ n B) : mo τ n B := mo_fr h (fun _ => rfl) hm
theorem tb_and0 {s j : Nat} : s &&& 2 ^ j = 0 ↔ s.testBit j = false := by
  constructor
  · intro h
    have h1 : (s &&& 2 ^ j).testBit j = false := by rw [h]; simp
    simpa [Nat.testBit_and, Nat.testBit_two_pow_self] using h1
  · intro h
    apply Nat.eq_of_testBit_eq
    intro i
    rw [Nat.testBit_and, Nat.testBit_two_pow]
    by_cases hi : j = i
    · subst hi; simp [h]
    · simp [hi]
theorem ni_tst {s j : Nat} (hs : s < 2 ^ 31) (hj : j < 31) : (nI s &&& (nI 1 <<< (nI j &&& 31)) = nI 0) ↔ s.testBit j = false := by
  rw [ni_1s hj, fa_and, nI_eq (Nat.lt_of_le_of_lt Nat.and_le_left hs) (by omega), tb_and0]
theorem ni_tst2 {s j : Nat} (hs : s < 2 ^ 31) : (nI (s &&& 2 ^ j) = nI 0) ↔ s.testBit j = false := by
  rw [nI_eq (Nat.lt_of_le_of_lt Nat.and_le_left hs) (by omega), tb_and0]
theorem mb_t1 : mb true = nI 1 := rfl
theorem mb_f0 : mb false = nI 0 := rfl
theorem e_within (σ : px_M) (v lo hi : Int64) : f_2 tT σ v lo hi = some (mb (decide (lo ≤ v) && decide (v ≤ hi))) := by
  unfold f_2
  by_cases h1 : v < lo
  · rw [if_pos h1, decide_eq_false (Int64.not_le.mpr h1)]; rfl
  · rw [if_neg h1]
    by_cases h2 : hi < v
    · rw [if_pos h2, decide_eq_false (Int64.not_le.mpr h2), Bool.and_false]; rfl
    · rw [if_neg h2, decide_eq_true (Int64.not_lt.mp h1), decide_eq_true (Int64.not_lt.mp h2)]; rfl
theorem e_isInG (σ : px_M) (v : Int64) (w : Int32) : f_14 tT σ v w = some (mb (decide ((v >>> (w.toInt64 &&& 63)) &&& lN 1 = lN 1))) := by
  unfold f_14 bn
  by_cases h : (v >>> (w.toInt64 &&& 63)) &&& lN 1 = lN 1
  · rw [if_pos h, decide_eq_true h]; rfl
  · rw [if_neg h, decide_eq_false h]; rfl
theorem e_isIn (σ : px_M) {s j : Nat} (hs : s < 2 ^ 31) (hj : j < 32) : f_14 tT σ (lN s) (nI j) = some (mb (s.testBit j)) := by
  rw [e_isInG, nI_l (by omega), mb_bit hs hj]
theorem e_near {σ : px_M} {n : Nat} {B : Nat → Nat} (hm : mo σ n B) {h : Nat} (hh : h < 11) : f_31 tT σ 0 (nI h) = some (nI (B h)) := by
  obtain ⟨hR, hw, h1, hnb⟩ := hm
  have hn := hw.1
  simp only [f_31, la_0, la_1, rm_0_1 hR, gd_tt, oA_arr, px_obj_s, Option.bind_some, Option.map_some, Option.bind_none, eq_self, true_or, or_true, px_av_0, px_av_1, px_av_2, px_av_10, px_av_11, bn, wi_1, wi_2, wl_1, wl_21, wl_22, wr_1, wr_21, wr_22, Sum.elim_inl, Sum.elim_inr, ↓reduceIte, Nat.reduceLT, Nat.reduceLeDiff, not_false_eq_true, not_true_eq_false, Nat.reduceEqDiff, Nat.reduceAdd, reduceCtorEq, and_true, true_and, and_false, false_and, false_or, or_false]
  simp (disch := omega) only [true_and, and_true, mb_bit, mb_house, bcI_eq, px_up_row, ni_divL, ni_subL, nI_add, pk_mul, nI_leI, nI_ltI, nI_eq, vp_in_eq, nI_clamp, fa_and, fa_or, ni_bit1, ni_1s, nI_l, mb_eq0, mb_ne0, mb_eq1, gd_tt, gd_t, bft, hnb]
theorem e_isHouse {σ : px_M} {n : Nat} {B : Nat → Nat} (hm : mo σ n B) (v : Int64) : f_30 tT σ 0 v = some (mb (decide (0 ≤ v.toInt ∧ v.toInt < n))) := by
  obtain ⟨hR, hw, h1, hnb⟩ := hm
  have hn := hw.1
  simp only [f_30, e_within, la_0, la_1, rm_0_1 hR, gd_tt, oA_arr, px_obj_s, Option.bind_some, Option.map_some, Option.bind_none, eq_self, true_or, or_true, px_av_0, px_av_1, px_av_2, px_av_10, px_av_11, bn, wi_1, wi_2, wl_1, wl_21, wl_22, wr_1, wr_21, wr_22, Sum.elim_inl, Sum.elim_inr, ↓reduceIte, Nat.reduceLT, Nat.reduceLeDiff, not_false_eq_true, not_true_eq_false, Nat.reduceEqDiff, Nat.reduceAdd, reduceCtorEq, and_true, true_and, and_false, false_and, false_or, or_false]
  simp (disch := omega) only [true_and, and_true, mb_bit, mb_house, bcI_eq, px_up_row, ni_divL, ni_subL, nI_add, pk_mul, nI_leI, nI_ltI, nI_eq, vp_in_eq, nI_clamp, fa_and, fa_or, ni_bit1, ni_1s, nI_l, mb_eq0, mb_ne0, mb_eq1, gd_tt, gd_t, bft, h1]
theorem e_bitsOfG (σ : px_M) (x : Int32) : f_32 tT σ x = some (bcI 11 x) := by
  unfold f_32 f_32_4
  refine lp_to (I := fun j => (bcI j x, nI j)) 11 (fun i hi => ?_) ?_ 0 (by omega)
  · show F_32_4 tT σ x (bcI i x) (nI i) = _
    rw [F_32_4, if_neg (by simp (disch := omega) only [nI_leI]; omega), f_32_18, nI_add]; rfl
  · show F_32_4 tT σ x (bcI 11 x) (nI 11) = _
    rw [F_32_4, if_pos (by decide)]
theorem e_bitsOf (σ : px_M) {s : Nat} (hs : s < 2 ^ 31) : f_32 tT σ (nI s) = some (nI (bc 11 s)) := by rw [e_bitsOfG, bcI_eq hs (by omega)]
/-- Integer.bitCount of a set of houses -/
def bE1 (x : Int32) : Int32 := x - (((x).toUInt32 >>> ((nI 1).toUInt32 &&& Int32.toUInt32 31)).toInt32 &&& nI 1431655765)
def bE2 (x : Int32) : Int32 := (x &&& nI 858993459) + (((x).toUInt32 >>> ((nI 2).toUInt32 &&& Int32.toUInt32 31)).toInt32 &&& nI 858993459)
def bE3 (x : Int32) : Int32 := (x + ((x).toUInt32 >>> ((nI 4).toUInt32 &&& Int32.toUInt32 31)).toInt32) &&& nI 252645135
def bE4 (x : Int32) : Int32 := x + ((x).toUInt32 >>> ((nI 8).toUInt32 &&& Int32.toUInt32 31)).toInt32
def bE5 (x : Int32) : Int32 := x + ((x).toUInt32 >>> ((nI 16).toUInt32 &&& Int32.toUInt32 31)).toInt32
def bcE (x : Int32) : Int32 := bE5 (bE4 (bE3 (bE2 (bE1 x)))) &&& nI 63
theorem bcE_all : ∀ a, a < 64 → ∀ b, b < 32 → bcE (nI (32 * a + b)) = nI (bc 11 (32 * a + b)) := by decide +kernel
theorem e_bitCount (σ : px_M) {s : Nat} (hs : s < 2048) : f_21000 tT σ (nI s) = some (nI (bc 11 s)) := by
  have h1 : f_21000 tT σ (nI s) = some (bcE (nI s)) := rfl
  have h2 := bcE_all (s / 32) (by omega) (s % 32) (by omega)
  rw [show 32 * (s / 32) + s % 32 = s by omega] at h2
  rw [h1, h2]
