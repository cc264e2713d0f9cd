/-! unlike towns: all numberings are told over -/
theorem prm_ok : ∀ n, n < 6 → ∀ l ∈ prm n, (∀ i, i < n → l.getD i 0 < n) ∧ ∀ i, i < n → ∀ j, j < n → l.getD i 0 = l.getD j 0 → i = j := by decide +kernel
theorem prm_5 : ∀ a, a < 5 → ∀ b, b < 5 → ∀ c, c < 5 → ∀ d, d < 5 → ∀ e, e < 5 → ((a == b) || (a == c) || (b == c) || (a == d) || (b == d) || (c == d) || (a == e) || (b == e) || (c == e) || (d == e) || List.elem [a, b, c, d, e] (prm 5)) = true := by decide +kernel
theorem prn_5 {a b c d e : Nat} (ha : a < 5) (hb : b < 5) (hc : c < 5) (hd : d < 5) (he : e < 5) (n0 : a ≠ b) (n1 : a ≠ c) (n2 : b ≠ c) (n3 : a ≠ d) (n4 : b ≠ d) (n5 : c ≠ d) (n6 : a ≠ e) (n7 : b ≠ e) (n8 : c ≠ e) (n9 : d ≠ e) : [a, b, c, d, e] ∈ prm 5 := by
  have := prm_5 a ha b hb c hc d hd e he
  simp only [Bool.or_eq_true, beq_iff_eq, n0, n1, n2, n3, n4, n5, n6, n7, n8, n9, false_or] at this
  exact List.mem_of_elem_eq_true this
theorem prm_4 : ∀ a, a < 4 → ∀ b, b < 4 → ∀ c, c < 4 → ∀ d, d < 4 → ((a == b) || (a == c) || (b == c) || (a == d) || (b == d) || (c == d) || List.elem [a, b, c, d] (prm 4)) = true := by decide +kernel
theorem prn_4 {a b c d : Nat} (ha : a < 4) (hb : b < 4) (hc : c < 4) (hd : d < 4) (n0 : a ≠ b) (n1 : a ≠ c) (n2 : b ≠ c) (n3 : a ≠ d) (n4 : b ≠ d) (n5 : c ≠ d) : [a, b, c, d] ∈ prm 4 := by
  have := prm_4 a ha b hb c hc d hd
  simp only [Bool.or_eq_true, beq_iff_eq, n0, n1, n2, n3, n4, n5, false_or] at this
  exact List.mem_of_elem_eq_true this
theorem prm_3 : ∀ a, a < 3 → ∀ b, b < 3 → ∀ c, c < 3 → ((a == b) || (a == c) || (b == c) || List.elem [a, b, c] (prm 3)) = true := by decide +kernel
theorem prn_3 {a b c : Nat} (ha : a < 3) (hb : b < 3) (hc : c < 3) (n0 : a ≠ b) (n1 : a ≠ c) (n2 : b ≠ c) : [a, b, c] ∈ prm 3 := by
  have := prm_3 a ha b hb c hc
  simp only [Bool.or_eq_true, beq_iff_eq, n0, n1, n2, false_or] at this
  exact List.mem_of_elem_eq_true this
theorem prm_2 : ∀ a, a < 2 → ∀ b, b < 2 → a ≠ b → [a, b] ∈ prm 2 := by decide +kernel
theorem prm_1 : ∀ a, a < 1 → [a] ∈ prm 1 := by decide +kernel
theorem prm_all {n : Nat} (hn : n < 6) {p : Nat → Nat} (hp : pm n p) : ∃ l ∈ prm n, ∀ i, i < n → l.getD i 0 = p i := by
  have d : ∀ i j, i < n → j < n → i ≠ j → p i ≠ p j := fun i j hi hj hij e => hij (hp.2 i j hi hj e)
  obtain rfl | rfl | rfl | rfl | rfl | rfl : n = 0 ∨ n = 1 ∨ n = 2 ∨ n = 3 ∨ n = 4 ∨ n = 5 := by omega
  · exact ⟨[], by decide, fun i hi => absurd hi (by omega)⟩
  · refine ⟨[p 0], prm_1 _ (hp.1 0 (by omega)), fun i hi => ?_⟩
    obtain rfl : i = 0 := by omega
    rfl
  · refine ⟨[p 0, p 1], prm_2 _ (hp.1 0 (by omega)) _ (hp.1 1 (by omega)) (d 0 1 (by omega) (by omega) (by omega)), fun i hi => ?_⟩
    obtain rfl | rfl : i = 0 ∨ i = 1 := by omega
    · rfl
    · rfl
  · refine ⟨[p 0, p 1, p 2], prn_3 (hp.1 0 (by omega)) (hp.1 1 (by omega)) (hp.1 2 (by omega)) (d 0 1 (by omega) (by omega) (by omega)) (d 0 2 (by omega) (by omega) (by omega)) (d 1 2 (by omega) (by omega) (by omega)), fun i hi => ?_⟩
    obtain rfl | rfl | rfl : i = 0 ∨ i = 1 ∨ i = 2 := by omega
    · rfl
    · rfl
    · rfl
  · refine ⟨[p 0, p 1, p 2, p 3], prn_4 (hp.1 0 (by omega)) (hp.1 1 (by omega)) (hp.1 2 (by omega)) (hp.1 3 (by omega)) (d 0 1 (by omega) (by omega) (by omega)) (d 0 2 (by omega) (by omega) (by omega)) (d 1 2 (by omega) (by omega) (by omega)) (d 0 3 (by omega) (by omega) (by omega)) (d 1 3 (by omega) (by omega) (by omega)) (d 2 3 (by omega) (by omega) (by omega)), fun i hi => ?_⟩
    obtain rfl | rfl | rfl | rfl : i = 0 ∨ i = 1 ∨ i = 2 ∨ i = 3 := by omega
    · rfl
    · rfl
    · rfl
    · rfl
  · refine ⟨[p 0, p 1, p 2, p 3, p 4], prn_5 (hp.1 0 (by omega)) (hp.1 1 (by omega)) (hp.1 2 (by omega)) (hp.1 3 (by omega)) (hp.1 4 (by omega)) (d 0 1 (by omega) (by omega) (by omega)) (d 0 2 (by omega) (by omega) (by omega)) (d 1 2 (by omega) (by omega) (by omega)) (d 0 3 (by omega) (by omega) (by omega)) (d 1 3 (by omega) (by omega) (by omega)) (d 2 3 (by omega) (by omega) (by omega)) (d 0 4 (by omega) (by omega) (by omega)) (d 1 4 (by omega) (by omega) (by omega)) (d 2 4 (by omega) (by omega) (by omega)) (d 3 4 (by omega) (by omega) (by omega)), fun i hi => ?_⟩
    obtain rfl | rfl | rfl | rfl | rfl : i = 0 ∨ i = 1 ∨ i = 2 ∨ i = 3 ∨ i = 4 := by omega
    · rfl
    · rfl
    · rfl
    · rfl
    · rfl
theorem lmk_mn {n d : Nat} (hn : n < 6) (hd : d < 2 ^ ofs n) : lmk n (gD n d) d ↔ mnB n d = true := by
  rw [gE_eq (by omega)]
  unfold mnB
  rw [List.all_eq_true]
  constructor
  · rintro ⟨-, h⟩ l hl
    obtain ⟨h1, h2⟩ := prm_ok n hn l hl
    exact decide_eq_true (h _ ⟨h1, fun i j hi hj => h2 i hi j hj⟩)
  · intro h
    refine ⟨⟨_, pm_id n, mk_self n hn d hd⟩, fun p hp => ?_⟩
    obtain ⟨l, hl, e⟩ := prm_all hn hp
    have := of_decide_eq_true (h l hl)
    rwa [mkS_congr (q := p) e] at this
noncomputable def fU (n : Nat) (z : Bool) (d : Nat) : Bool := pln n (gD n d) z n && @decide (lmk n (gD n d) d) (Classical.propDecidable _)
theorem u_all {n : Nat} (hn : n < 6) (z : Bool) : cnt (fU n z) (2 ^ ofs n) = uT z n := by
  have e : cnt (fU n z) (2 ^ ofs n) = cnt (fun d => pln n (gE n d) z n && mnB n d) (2 ^ ofs n) := cnt_congr (fun d hd => by
    unfold fU
    rw [gE_eq (by omega)]
    congr 1
    have := lmk_mn hn hd
    rw [gE_eq (by omega)] at this
    cases q : mnB n d with
    | true => exact @decide_eq_true _ (Classical.propDecidable _) (this.mpr q)
    | false => exact @decide_eq_false _ (Classical.propDecidable _) (fun h => by rw [this.mp h] at q; cases q))
  rw [e]
  by_cases h5 : n = 5
  · subst h5
    cases z with
    | false => exact u_5
    | true => exact u_5z
  · cases z with
    | false => exact (u_n n (by omega)).1
    | true => exact (u_n n (by omega)).2
