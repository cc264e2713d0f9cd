/-! the state of both -/
def anX (σ τ : px_M) (A off : Nat) : Prop := ∃ n B nr S C d G ln, anC σ A n B nr S C d G ln ∧ anM τ off n B nr S C d G ln
def imX (σ τ : px_M) (i : Nat) : Prop := (σ.1 102 i = nI 0 ∧ τ.1 2 i = nI 0) ∨ (σ.1 102 i = nI 1 ∧ τ.1 2 i = nI 1 ∧ anX σ τ (120 + 10 * i) (1072 * (i + 1)))
def tpX (σ τ : px_M) : Prop := ∃ (b : Nat → Nat) (t : Nat), t ≤ 900 ∧ σ.1 150 0 = nI t ∧ τ.1 0 5 = nI t ∧ (∀ i, i < 900 → σ.1 151 i = sb (b i)) ∧ (∀ i, i < 900 → τ.1 3 i = nI (b i)) ∧ ∀ i, b i < 256
def drX (σ : px_M) : Prop := (∃ L, L < 12 ∧ σ.1 140 4 = nI L) ∧ σ.1 144 0 = nI 0
def rwX (σ τ : px_M) : Prop := ∃ K N, cr4 σ K N ∧ mr4 τ K N
def ST (σ τ : px_M) : Prop := (cR σ.2.2 ∧ mR τ.2.2) ∧ anX σ τ 110 0 ∧ (imX σ τ 0 ∧ imX σ τ 1) ∧ rwX σ τ ∧ tpX σ τ ∧ (σ.1 150 1 = τ.1 0 13 ∧ σ.1 150 2 = τ.1 0 14) ∧ drX σ
section
variable {σ τ σ' τ' : px_M} {Q P : Nat → Nat → Bool}
theorem anX_fr {A off : Nat} (f1 : fr Q σ σ') (q : ∀ l j, A ≤ l → l ≤ A + 7 → Q l j = false) (p : ∀ k, k < 1072 → τ'.1 1 (off + k) = τ.1 1 (off + k)) (h : anX σ τ A off) : anX σ' τ' A off := by
  obtain ⟨n, B, nr, S, C, d, G, ln, h1, h2⟩ := h
  exact ⟨n, B, nr, S, C, d, G, ln, anC_fr f1 q h1, anM_copy p h1.2.2.1 h2⟩
theorem imX_fr {i : Nat} (hi : i < 2) (f1 : fr Q σ σ') (f2 : fr P τ τ') (q : ∀ l j, l = 102 ∨ (120 ≤ l ∧ l < 138) → Q l j = false) (p2 : ∀ j, P 2 j = false) (p : ∀ j, 1072 ≤ j → j < 3216 → τ'.1 1 j = τ.1 1 j) (h : imX σ τ i) : imX σ' τ' i := by
  rcases h with ⟨h1, h2⟩ | ⟨h1, h2, h3⟩
  · exact Or.inl ⟨by rw [f1.1 _ _ (q _ _ (Or.inl rfl))]; exact h1, by rw [f2.1 _ _ (p2 _)]; exact h2⟩
  · exact Or.inr ⟨by rw [f1.1 _ _ (q _ _ (Or.inl rfl))]; exact h1, by rw [f2.1 _ _ (p2 _)]; exact h2, anX_fr f1 (fun l j a1 a2 => q l j (Or.inr (by omega))) (fun k hk => p _ (by omega) (by omega)) h3⟩
theorem rwX_fr (f1 : fr Q σ σ') (f2 : fr P τ τ') (q : ∀ l j, 103 ≤ l → l < 106 → Q l j = false) (p : ∀ l j, 35 ≤ l → l < 38 → P l j = false) (h : rwX σ τ) : rwX σ' τ' := by
  obtain ⟨K, N, h1, h2⟩ := h
  exact ⟨K, N, cr4_fr f1 (fun j => q _ j (by omega) (by omega)) (fun j => q _ j (by omega) (by omega)) (fun j => q _ j (by omega) (by omega)) h1, mr4_fr f2 (fun j => p _ j (by omega) (by omega)) (fun j => p _ j (by omega) (by omega)) (fun j => p _ j (by omega) (by omega)) h2⟩
theorem tpX_fr (f1 : fr Q σ σ') (f2 : fr P τ τ') (q0 : Q 150 0 = false) (q1 : ∀ j, Q 151 j = false) (p0 : P 0 5 = false) (p1 : ∀ j, P 3 j = false) (h : tpX σ τ) : tpX σ' τ' := by
  obtain ⟨b, t, h1, h2, h3, h4, h5, h6⟩ := h
  exact ⟨b, t, h1, by rw [f1.1 _ _ q0]; exact h2, by rw [f2.1 _ _ p0]; exact h3, fun i hi => by rw [f1.1 _ _ (q1 i)]; exact h4 i hi, fun i hi => by rw [f2.1 _ _ (p1 i)]; exact h5 i hi, h6⟩
theorem drX_fr (f1 : fr Q σ σ') (q0 : Q 140 4 = false) (q1 : Q 144 0 = false) (h : drX σ) : drX σ' := by
  obtain ⟨⟨L, h1, h2⟩, h3⟩ := h
  exact ⟨⟨L, h1, by rw [f1.1 _ _ q0]; exact h2⟩, by rw [f1.1 _ _ q1]; exact h3⟩
/-- what both show of the town now -/
theorem ST_cld (h : ST σ τ) : ∃ n B nr S C d G, cld σ n B nr S C d G ∧ modl τ n B nr S C d G := by
  obtain ⟨⟨hR, hRm⟩, ⟨n, B, nr, S, C, d, G, ln, ⟨c1, c2, c3, c4, c5, c6⟩, ⟨m1, m2, m3, m4, m5, m6⟩⟩, -⟩ := h
  exact ⟨n, B, nr, S, C, d, G, ⟨⟨⟨hR, c1⟩, c2, c3⟩, c4, c5⟩, ⟨⟨hRm, m1, by rw [Nat.zero_add] at m2; exact m2, fun a ha => by have := m3 a ha; rw [Nat.zero_add] at this; exact this⟩, m4⟩, m5⟩
/-- a deed done: the rest stays -/
theorem ST_deed (h : ST σ τ) (f1 : fr SCD σ σ') (f2 : fr SMD τ τ') {n nr d : Nat} {B S C : Nat → Nat} {G : Nat → Nat → Int32} (hc : cld σ' n B nr S C d G) (hm : modl τ' n B nr S C d G) : ST σ' τ' := by
  obtain ⟨⟨hR, hRm⟩, ⟨n0, B0, nr0, S0, C0, d0, G0, ln, ⟨c1, c2, c3, c4, c5, c6⟩, ⟨m1, m2, m3, m4, m5, m6⟩⟩, ⟨i0, i1⟩, hrw, htp, ⟨hf1, hf2⟩, hdr⟩ := h
  have q : ∀ l j, l < 110 ∨ (118 ≤ l ∧ l < 160) → SCD l j = false := fun l j hl => by
    simp only [SCD, SC, tb2, hsC, tw2, Bool.or_eq_false_iff, Bool.and_eq_false_iff, beq_eq_false_iff_ne, decide_eq_false_iff_not]
    omega
  have p : ∀ j, 158 ≤ j → SMD 1 j = false := fun j hj => by
    simp only [SMD, SM, uS, tn, hs, Bool.or_eq_false_iff, Bool.and_eq_false_iff, beq_eq_false_iff_ne, decide_eq_false_iff_not]
    omega
  have p2 : ∀ l j, l = 2 ∨ l = 3 ∨ l = 35 ∨ l = 36 ∨ l = 37 ∨ (l = 0 ∧ (j = 5 ∨ j = 13 ∨ j = 14)) → SMD l j = false := fun l j hl => by
    simp only [SMD, SM, uS, tn, hs, Bool.or_eq_false_iff, Bool.and_eq_false_iff, beq_eq_false_iff_ne, decide_eq_false_iff_not]
    omega
  have rw1 : ∀ j, 158 ≤ j → τ'.1 1 j = τ.1 1 j := fun j hj => f2.1 1 j (p j hj)
  obtain ⟨⟨⟨hR', a1⟩, a2, a3⟩, a4, a5⟩ := hc
  obtain ⟨⟨⟨hRm', b1, b2, b3⟩, b4⟩, b5⟩ := hm
  refine ⟨⟨hR', hRm'⟩, ⟨n, B, nr, S, C, d, G, ln, ⟨a1, a2, a3, a4, a5, ?_⟩, ⟨b1, by rw [Nat.zero_add]; exact b2, fun x hx => by rw [Nat.zero_add]; exact b3 x hx, b4, b5, ?_⟩⟩, ⟨?_, ?_⟩, ?_, ?_, ⟨?_, ?_⟩, ?_⟩
  · rw [f1.1 110 2 rfl]; exact c6
  · rw [f2.1 1 0 rfl]; exact m6
  · exact imX_fr (by omega) f1 f2 (fun l j hl => q l j (by omega)) (fun j => p2 _ _ (by omega)) (fun j h1 _ => rw1 j (by omega)) i0
  · exact imX_fr (by omega) f1 f2 (fun l j hl => q l j (by omega)) (fun j => p2 _ _ (by omega)) (fun j h1 _ => rw1 j (by omega)) i1
  · exact rwX_fr f1 f2 (fun l j h1 h2 => q l j (by omega)) (fun l j h1 h2 => p2 l j (by omega)) hrw
  · exact tpX_fr f1 f2 (q _ _ (by omega)) (fun j => q _ _ (by omega)) (p2 _ _ (by omega)) (fun j => p2 _ _ (by omega)) htp
  · rw [f1.1 _ _ (q 150 1 (by omega)), f2.1 _ _ (p2 0 13 (by omega))]; exact hf1
  · rw [f1.1 _ _ (q 150 2 (by omega)), f2.1 _ _ (p2 0 14 (by omega))]; exact hf2
  · exact drX_fr f1 (q _ _ (by omega)) (q _ _ (by omega)) hdr
/-- an asking: nothing of it stays -/
theorem ST_ask (h : ST σ τ) (f1 : fr SC σ σ') (f2 : fk SM τ τ') : ST σ' τ' := by
  obtain ⟨n, B, nr, S, C, d, G, hc, hm⟩ := ST_cld h
  exact ST_deed h (fr_mono f1 SCD_SC) (fr_fk f2) (cld_SC f1 hc) (modl_fk f2 hm)
theorem fk_SM (h : fr SM τ τ') : fk SM τ τ' := fk_of h (fun _ => by simp [SM])
/-- the class works above 100, the model below -/
def lo (σ σ' : px_M) : Prop := ∀ l, l < 100 → ∀ j, σ'.1 l j = σ.1 l j ∧ σ'.2.1 l j = σ.2.1 l j ∧ σ'.2.2 l j = σ.2.2 l j
def hi (τ τ' : px_M) : Prop := ∀ l, 100 ≤ l → ∀ j, τ'.1 l j = τ.1 l j ∧ τ'.2.1 l j = τ.2.1 l j ∧ τ'.2.2 l j = τ.2.2 l j
theorem lo_fr (f : fr Q σ σ') (q : ∀ l j, l < 100 → Q l j = false) : lo σ σ' := fun l hl j => ⟨f.1 l j (q l j hl), f.2.1 l j (q l j hl), f.2.2 l j (Or.inl (q l j hl))⟩
theorem hi_fr (f : fr P τ τ') (q : ∀ l j, 100 ≤ l → P l j = false) : hi τ τ' := fun l hl j => ⟨f.1 l j (q l j hl), f.2.1 l j (q l j hl), f.2.2 l j (Or.inl (q l j hl))⟩
theorem lo_rf (σ : px_M) : lo σ σ := fun _ _ _ => ⟨rfl, rfl, rfl⟩
theorem hi_rf (σ : px_M) : hi σ σ := fun _ _ _ => ⟨rfl, rfl, rfl⟩
theorem hi_tr {τ'' : px_M} (h1 : hi τ τ') (h2 : hi τ' τ'') : hi τ τ'' := fun l hl j => ⟨(h2 l hl j).1.trans (h1 l hl j).1, (h2 l hl j).2.1.trans (h1 l hl j).2.1, (h2 l hl j).2.2.trans (h1 l hl j).2.2⟩
def SJ (σ τ σ' τ' : px_M) : Prop := ST σ' τ' ∧ lo σ σ' ∧ hi τ τ'
theorem SJ_deed (h : ST σ τ) (f1 : fr SCD σ σ') (f2 : fr SMD τ τ') {n nr d : Nat} {B S C : Nat → Nat} {G : Nat → Nat → Int32} (hc : cld σ' n B nr S C d G) (hm : modl τ' n B nr S C d G) : SJ σ τ σ' τ' := by
  refine ⟨ST_deed h f1 f2 hc hm, lo_fr f1 (fun l j hl => ?_), hi_fr f2 (fun l j hl => ?_)⟩
  · simp only [SCD, SC, tb2, hsC, tw2, Bool.or_eq_false_iff, Bool.and_eq_false_iff, beq_eq_false_iff_ne, decide_eq_false_iff_not]
    omega
  · simp only [SMD, SM, uS, tn, hs, Bool.or_eq_false_iff, Bool.and_eq_false_iff, beq_eq_false_iff_ne, decide_eq_false_iff_not]
    omega
theorem SJ_ask (h : ST σ τ) (f1 : fr SC σ σ') (f2 : fk SM τ τ') : SJ σ τ σ' τ' := by
  obtain ⟨n, B, nr, S, C, d, G, hc, hm⟩ := ST_cld h
  exact SJ_deed h (fr_mono f1 SCD_SC) (fr_fk f2) (cld_SC f1 hc) (modl_fk f2 hm)
/-- what a call comes to, in both -/
def stII (σ τ : px_M) (fc fm : Option (Int32 × px_M)) : Prop := ∃ r σ' τ', fc = some (r, σ') ∧ fm = some (r, τ') ∧ SJ σ τ σ' τ'
def stLL (σ τ : px_M) (fc fm : Option (Int64 × px_M)) : Prop := ∃ r σ' τ', fc = some (r, σ') ∧ fm = some (r, τ') ∧ SJ σ τ σ' τ'
def stPP (σ τ : px_M) (fc : Option Int32) (fm : Option (Int32 × px_M)) : Prop := ∃ r τ', fc = some r ∧ fm = some (r, τ') ∧ SJ σ τ σ τ'
theorem s_Q (h : ST σ τ) {fc : Option Int32} {fm : px_M → Option (Int32 × px_M)} (ha : ∀ n B, cl σ n B → agQ fc fm n B) : stPP σ τ fc (fm τ) := by
  obtain ⟨n, B, nr, S, C, d, G, hc, hm⟩ := ST_cld h
  obtain ⟨r, y1, y2⟩ := ha n B hc.1.1
  obtain ⟨υ, z1, z2⟩ := y2 τ hm.1.1
  exact ⟨r, υ, y1, z1, SJ_ask h (fr_rf _ _) (fk_SM z2)⟩
theorem s_P (h : ST σ τ) {fc : Option Int32} {fm : px_M → Option (Int32 × px_M)} (ha : ∀ n B, cl σ n B → agP fc fm n B) : stPP σ τ fc (fm τ) := by
  obtain ⟨n, B, nr, S, C, d, G, hc, hm⟩ := ST_cld h
  obtain ⟨r, y1, y2⟩ := ha n B hc.1.1
  obtain ⟨υ, z1, z2⟩ := y2 τ hm.1.1
  exact ⟨r, υ, y1, z1, SJ_ask h (fr_rf _ _) z2⟩
theorem s_I (h : ST σ τ) {fc : Option (Int32 × px_M)} {fm : px_M → Option (Int32 × px_M)} (ha : ∀ n B, cl σ n B → agI σ fc fm n B) : stII σ τ fc (fm τ) := by
  obtain ⟨n, B, nr, S, C, d, G, hc, hm⟩ := ST_cld h
  obtain ⟨r, σ', y1, y2, y3⟩ := ha n B hc.1.1
  obtain ⟨υ, z1, z2⟩ := y3 τ hm.1.1
  exact ⟨r, σ', υ, y1, z1, SJ_ask h y2 (fk_SM z2)⟩
theorem s_K (h : ST σ τ) {fc : Option (Int32 × px_M)} {fm : px_M → Option (Int32 × px_M)} (ha : ∀ n B, cl σ n B → agK σ fc fm n B) : stII σ τ fc (fm τ) := by
  obtain ⟨n, B, nr, S, C, d, G, hc, hm⟩ := ST_cld h
  obtain ⟨r, σ', y1, y2, y3⟩ := ha n B hc.1.1
  obtain ⟨υ, z1, z2⟩ := y3 τ hm.1.1
  exact ⟨r, σ', υ, y1, z1, SJ_ask h y2 z2⟩
theorem s_L (h : ST σ τ) {fc : Option (Int64 × px_M)} {fm : px_M → Option (Int64 × px_M)} (ha : ∀ n B, cl σ n B → agL σ fc fm n B) : stLL σ τ fc (fm τ) := by
  obtain ⟨n, B, nr, S, C, d, G, hc, hm⟩ := ST_cld h
  obtain ⟨r, σ', y1, y2, y3⟩ := ha n B hc.1.1
  obtain ⟨υ, z1, z2⟩ := y3 τ hm.1.1
  exact ⟨r, σ', υ, y1, z1, SJ_ask h y2 (fk_SM z2)⟩
theorem s_R (h : ST σ τ) {fc : Option (Int32 × px_M)} {fm : px_M → Option (Int32 × px_M)} (ha : ∀ n B nr S C, clr σ n B nr S C → agR σ fc fm n B nr S C) : stII σ τ fc (fm τ) := by
  obtain ⟨n, B, nr, S, C, d, G, hc, hm⟩ := ST_cld h
  obtain ⟨r, σ', y1, y2, y3⟩ := ha n B nr S C hc.1
  obtain ⟨υ, z1, z2⟩ := y3 τ hm.1
  exact ⟨r, σ', υ, y1, z1, SJ_ask h y2 z2⟩
theorem s_D (h : ST σ τ) {fc : Option (Int32 × px_M)} {fm : px_M → Option (Int32 × px_M)} (ha : ∀ n B nr S C d G, cld σ n B nr S C d G → agD σ fc fm n B nr S C d G) : stII σ τ fc (fm τ) := by
  obtain ⟨n, B, nr, S, C, d, G, hc, hm⟩ := ST_cld h
  obtain ⟨r, σ', n', B', d', G', y1, y2, y3, y4⟩ := ha n B nr S C d G hc
  obtain ⟨υ, z1, z2, z3⟩ := y4 τ hm
  exact ⟨r, σ', υ, y1, z1, SJ_deed h y2 z2 y3 z3⟩
theorem s_judge (h : ST σ τ) (x y : Int32) : stII σ τ (f_12018 tT σ 100 x y) (f_74 tT τ 0 x y) := by
  obtain ⟨n, B, nr, S, C, d, G, hc, hm⟩ := ST_cld h
  obtain ⟨K, N, k1, k2⟩ := h.2.2.2.1
  obtain ⟨r, σ', y1, y2, y3⟩ := a_judge hc.1 k1 x y
  obtain ⟨υ, z1, z2⟩ := y3 τ hm.1 k2
  exact ⟨r, σ', υ, y1, z1, SJ_ask h y2 z2⟩
theorem s_perform (h : ST σ τ) (x : Int32) : stII σ τ (f_12019 tT σ 100 x) (f_75 tT τ 0 x) := by
  obtain ⟨n, B, nr, S, C, d, G, hc, hm⟩ := ST_cld h
  obtain ⟨K, N, k1, k2⟩ := h.2.2.2.1
  obtain ⟨r, σ', B', d', G', y1, y2, y3, y4⟩ := a_perform hc k1 x
  obtain ⟨υ, z1, z2, z3⟩ := y4 τ hm k2
  exact ⟨r, σ', υ, y1, z1, SJ_deed h y2 z2 y3 z3⟩
/-- rows alone have changed -/
theorem ST_rows (h : ST σ τ) (f1 : fr RwC σ σ') (f2 : fr RwM τ τ') (hr : rwX σ' τ') : ST σ' τ' := by
  obtain ⟨⟨hR, hRm⟩, ha, ⟨i0, i1⟩, hrw, htp, ⟨hf1, hf2⟩, hdr⟩ := h
  have q : ∀ l j, l < 103 ∨ 106 ≤ l → RwC l j = false := fun l j hl => by
    simp only [RwC, Bool.or_eq_false_iff, beq_eq_false_iff_ne]
    omega
  refine ⟨⟨cR_fr f1 hR, mR_fr f2 hRm⟩, anX_fr f1 (fun l j a1 a2 => q l j (by omega)) (fun k hk => f2.1 1 _ rfl) ha, ⟨?_, ?_⟩, hr, ?_, ⟨?_, ?_⟩, ?_⟩
  · exact imX_fr (by omega) f1 f2 (fun l j hl => q l j (by omega)) (fun j => rfl) (fun j _ _ => f2.1 1 _ rfl) i0
  · exact imX_fr (by omega) f1 f2 (fun l j hl => q l j (by omega)) (fun j => rfl) (fun j _ _ => f2.1 1 _ rfl) i1
  · exact tpX_fr f1 f2 rfl (fun _ => rfl) rfl (fun _ => rfl) htp
  · rw [f1.1 150 1 rfl, f2.1 0 13 rfl]; exact hf1
  · rw [f1.1 150 2 rfl, f2.1 0 14 rfl]; exact hf2
  · exact drX_fr f1 rfl rfl hdr
theorem SJ_rows (h : ST σ τ) (f1 : fr RwC σ σ') (f2 : fr RwM τ τ') (hr : rwX σ' τ') : SJ σ τ σ' τ' := by
  refine ⟨ST_rows h f1 f2 hr, lo_fr f1 (fun l j hl => ?_), hi_fr f2 (fun l j hl => ?_)⟩
  · simp only [RwC, Bool.or_eq_false_iff, beq_eq_false_iff_ne]
    omega
  · simp only [RwM, Bool.or_eq_false_iff, Bool.and_eq_false_iff, beq_eq_false_iff_ne]
    omega
theorem s_numbers (h : ST σ τ) (x y z : Int32) : stII σ τ (f_12049 tT σ 100 x y z) (f_128 tT τ 0 x y z) := by
  obtain ⟨K, N, k1, k2⟩ := h.2.2.2.1
  obtain ⟨r, σ', K', N', y1, y2, y3, y4⟩ := a_numbers h.1.1 k1 x y z
  obtain ⟨υ, z1, z2, z3⟩ := y4 τ h.1.2 k2
  exact ⟨r, σ', υ, y1, z1, SJ_rows h y2 z2 ⟨K', N', y3, z3⟩⟩
theorem s_write (h : ST σ τ) (x y : Int32) (v : Int64) : stLL σ τ (f_12050 tT σ 100 x y v) (f_129 tT τ 0 x y v) := by
  obtain ⟨K, N, k1, k2⟩ := h.2.2.2.1
  obtain ⟨r, σ', N', y1, y2, y3, y4⟩ := a_write h.1.1 k1 x y v
  obtain ⟨υ, z1, z2, z3⟩ := y4 τ h.1.2 k2
  exact ⟨r, σ', υ, y1, z1, SJ_rows h y2 z2 ⟨K, N', y3, z3⟩⟩
theorem s_copy (h : ST σ τ) (x : Int32) : stII σ τ (f_12051 tT σ 100 x) (f_130 tT τ 0 x) := by
  obtain ⟨n, B, nr, S, C, d, G, hc, hm⟩ := ST_cld h
  obtain ⟨K, N, k1, k2⟩ := h.2.2.2.1
  obtain ⟨r, σ', N', y1, y2, y3, y4⟩ := a_copy hc.1.1 k1 x
  obtain ⟨υ, z1, z2, z3⟩ := y4 τ hm.1.1 k2
  exact ⟨r, σ', υ, y1, z1, SJ_rows h y2 z2 ⟨K, N', y3, z3⟩⟩
end
