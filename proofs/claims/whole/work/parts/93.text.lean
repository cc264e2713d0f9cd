/-! texts, and what a token is -/
section
variable {σ τ : px_M}
theorem x_len {L m : Nat} (h1 : px_lay tT L = some (.inl 23)) (h2 : px_lay tT (L + 100) = some (.inr (10, m))) (hm : m < 100) : f_23000 tT σ L = some (nI m) := by
  have e1 : narrow .byte (.int (nI 0)) = .int (nI 0) := by decide
  have e2 : ∀ m, m < 100 → nI m >>> (nI 0 &&& 31) = nI m := by decide
  unfold f_23000 f_23001
  simp only [h1, h2, e1, e2 m hm, gd_tt, oA_arr, px_obj_s, Option.bind_some, Option.map_some, Option.bind_none, eq_self, true_or, or_true, px_av_0, px_av_1, px_av_2, px_av_10, px_av_11, bn, wi_1, wi_2, wl_1, wl_21, wl_22, wr_1, wr_21, wr_22, Sum.elim_inl, Sum.elim_inr, ↓reduceIte, Nat.reduceLT, Nat.reduceLeDiff, not_false_eq_true, not_true_eq_false, Nat.reduceEqDiff, Nat.reduceAdd, reduceCtorEq, and_true, true_and, and_false, false_and, false_or, or_false]
theorem x_char {L m j c : Nat} (h1 : px_lay tT L = some (.inl 23)) (h2 : px_lay tT (L + 100) = some (.inr (10, m))) (hm : m < 100) (hj : j < m) (hx : pn_xv (L + 100) j = nI c) (hc : c < 128) : f_23002 tT σ L (nI j) = some (nI c) := by
  have e1 : ∀ c, c < 128 → narrow .char (.int (nI c)) = .int (nI c) := by decide
  have e2 : ∀ c, c < 128 → ((nI c &&& nI 255).toUInt32 % 65536).toInt32 = nI c := by decide
  have n1 : ¬ nI 1 = nI 0 := by decide
  have a1 : ¬ nI j < nI 0 := by rw [nI_ltI (by omega) (by omega)]; omega
  have a2 : nI j < nI m := by rw [nI_ltI (by omega) (by omega)]; omega
  have c1 : vp_in (nI j) m := (vp_in_eq (by omega)).mpr (by omega)
  have c2 : (nI j).toNatClampNeg = j := nI_clamp (by omega)
  unfold f_23002 f_23003 f_24000 f_23004 f_25000
  simp only [h1, h2, n1, a1, a2, c1, c2, hx, e1 c hc, e2 c hc, gd_tt, oA_arr, px_obj_s, Option.bind_some, Option.map_some, Option.bind_none, eq_self, true_or, or_true, px_av_0, px_av_1, px_av_2, px_av_10, px_av_11, bn, wi_1, wi_2, wl_1, wl_21, wl_22, wr_1, wr_21, wr_22, Sum.elim_inl, Sum.elim_inr, ↓reduceIte, Nat.reduceLT, Nat.reduceLeDiff, not_false_eq_true, not_true_eq_false, Nat.reduceEqDiff, Nat.reduceAdd, reduceCtorEq, and_true, true_and, and_false, false_and, false_or, or_false]
end
/-- the words of the model's text: where they begin, how long they are -/
def TX (p : Nat) : Nat := ([32, 104, 111, 117, 115, 101, 115, 32, 100, 111, 111, 114, 32, 114, 105, 110, 103, 32, 114, 117, 108, 101, 32, 111, 114, 32, 97, 110, 100, 32, 110, 111, 116, 32, 100, 111, 111, 114, 115, 32, 116, 104, 114, 101, 101, 115, 32, 102, 111, 117, 114, 115, 32, 102, 97, 114, 32, 112, 97, 105, 114, 115, 32, 102, 101, 97, 115, 116, 32, 99, 111, 108, 111, 117, 114, 115, 32, 104, 97, 108, 118, 101, 115, 32] : List Nat).getD p 0
def wp (i : Nat) : Nat := ([1, 8, 13, 18, 23, 26, 30, 34, 40, 47, 53, 57, 63, 69, 77, 84] : List Nat).getD i 0
def wln (i : Nat) : Nat := wp (i + 1) - wp i - 1
theorem TX_v : ∀ p, p < 84 → pn_xv 1100 p = nI (TX p) ∧ TX p < 128 := by decide +kernel
theorem wp_ok : ∀ i, i < 15 → wp (i + 1) = wp i + wln i + 1 ∧ wp (i + 1) ≤ 84 ∧ 2 ≤ wln i ∧ wln i ≤ 7 ∧ TX (wp i + wln i) = 32 := by decide +kernel
theorem wp_in : ∀ i, i < 15 → ∀ j, j < wln i → TX (wp i + j) ≠ 32 := by decide +kernel
theorem wp_inj : ∀ i, i < 15 → ∀ k, k < 15 → (i == k || !(wln i == wln k) || (List.range (wln i)).any (fun j => !(TX (wp i + j) == TX (wp k + j)))) = true := by decide +kernel
def SGf (i : Nat) : Nat := ([59, 58, 43, 45, 42, 40, 41, 91, 93, 61, 60, 62] : List Nat).getD i 0
theorem SG_v : ∀ i, i < 12 → pn_xv 1101 i = nI (SGf i) ∧ pn_xv 1102 i = nI (SGf i) ∧ SGf i < 128 ∧ 0 < SGf i := by decide +kernel
theorem SG_inj : ∀ i, i < 12 → ∀ k, k < 12 → SGf i = SGf k → i = k := by decide +kernel
def eqw (b : Nat → Nat) (s q i : Nat) : Prop := q = s + wln i ∧ ∀ j, j < wln i → b (s + j) = TX (wp i + j)
theorem eqw_u {b : Nat → Nat} {s q i k : Nat} (hi : i < 15) (hk : k < 15) (h1 : eqw b s q i) (h2 : eqw b s q k) : i = k := by
  have := wp_inj i hi k hk
  have e : wln i = wln k := by have := h1.1; have := h2.1; omega
  rw [Bool.or_eq_true, Bool.or_eq_true, beq_iff_eq, Bool.not_eq_true', beq_eq_false_iff_ne, List.any_eq_true] at this
  rcases this with (h | h) | ⟨j, hj, h⟩
  · exact h
  · exact absurd e h
  · rw [List.mem_range] at hj
    rw [Bool.not_eq_true', beq_eq_false_iff_ne] at h
    exact absurd ((h1.2 j hj).symm.trans (h2.2 j (by omega))) h
def wdp (b : Nat → Nat) (s q κ : Nat) : Prop := (κ < 15 ∧ eqw b s q κ) ∨ (κ = 15 ∧ ∀ i, i < 15 → ¬ eqw b s q i)
theorem wdp_u {b : Nat → Nat} {s q κ κ' : Nat} (h1 : wdp b s q κ) (h2 : wdp b s q κ') : κ = κ' := by
  rcases h1 with ⟨a, h1⟩ | ⟨a, h1⟩ <;> rcases h2 with ⟨c, h2⟩ | ⟨c, h2⟩
  · exact eqw_u a c h1 h2
  · exact absurd h1 (h2 _ a)
  · exact absurd h2 (h1 _ c)
  · omega
def sgp (c κ : Nat) : Prop := (∃ i, i < 12 ∧ c = SGf i ∧ κ = 20 + i) ∨ (κ = 18 ∧ ∀ i, i < 12 → c ≠ SGf i)
theorem sgp_u {c κ κ' : Nat} (h1 : sgp c κ) (h2 : sgp c κ') : κ = κ' := by
  rcases h1 with ⟨i, hi, e, r⟩ | ⟨r, h⟩ <;> rcases h2 with ⟨k, hk, e', r'⟩ | ⟨r', h'⟩
  · have := SG_inj i hi k hk (by rw [← e, ← e']); omega
  · exact absurd e (h' i hi)
  · exact absurd e' (h k hk)
  · omega
def blk (b : Nat → Nat) (p : Nat) : Prop := b p = 10 ∨ b p = 32
def ltr (b : Nat → Nat) (p : Nat) : Prop := 97 ≤ b p ∧ b p ≤ 122
def dgt (b : Nat → Nat) (p : Nat) : Prop := 48 ≤ b p ∧ b p ≤ 57
def run (P : Nat → Prop) (e s q : Nat) : Prop := s < q ∧ q ≤ e ∧ (∀ i, s ≤ i → i < q → P i) ∧ (q = e ∨ ¬ P q)
theorem run_u {P : Nat → Prop} {e s q q' : Nat} (h1 : run P e s q) (h2 : run P e s q') : q = q' := by
  obtain ⟨a1, a2, a3, a4⟩ := h1
  obtain ⟨c1, c2, c3, c4⟩ := h2
  rcases Nat.lt_trichotomy q q' with h | h | h
  · rcases a4 with a4 | a4
    · omega
    · exact absurd (c3 q (by omega) h) a4
  · exact h
  · rcases c4 with c4 | c4
    · omega
    · exact absurd (a3 q' (by omega) h) c4
def vl (b : Nat → Nat) (s : Nat) : Nat → Nat
  | 0 => 0
  | j + 1 => 10 * vl b s j + (b (s + j) - 48)
theorem vl_lt {b : Nat → Nat} {s : Nat} : ∀ {j : Nat}, (∀ i, i < j → dgt b (s + i)) → vl b s j < 10 ^ j := by
  intro j
  induction j with
  | zero => intro _; exact Nat.lt_of_lt_of_le (by decide : 0 < 1) (Nat.le_refl _)
  | succ j ih =>
    intro h
    have h1 := ih (fun i hi => h i (by omega))
    have h2 := h j (by omega)
    unfold dgt at h2
    simp only [vl]
    rw [Nat.pow_succ]
    omega
/-- from p on, the next token is from s to q, of the sort κ and the value v -/
def tkn (b : Nat → Nat) (e p s q κ v : Nat) : Prop := (p ≤ s ∧ s ≤ e ∧ ∀ i, p ≤ i → i < s → blk b i) ∧ ((s = e ∧ q = e ∧ κ = 17 ∧ v = 0) ∨ (s < e ∧ ¬ blk b s ∧ ((ltr b s ∧ run (ltr b) e s q ∧ wdp b s q κ ∧ v = 0) ∨ (dgt b s ∧ run (dgt b) e s q ∧ ((q ≤ s + 3 ∧ κ = 16 ∧ v = vl b s (q - s)) ∨ (s + 3 < q ∧ κ = 18 ∧ v = 0))) ∨ (¬ ltr b s ∧ ¬ dgt b s ∧ q = s + 1 ∧ sgp (b s) κ ∧ v = 0))))
theorem tkn_u {b : Nat → Nat} {e p s q κ v s' q' κ' v' : Nat} (h1 : tkn b e p s q κ v) (h2 : tkn b e p s' q' κ' v') : s = s' ∧ q = q' ∧ κ = κ' ∧ v = v' := by
  obtain ⟨⟨a1, a2, a3⟩, a4⟩ := h1
  obtain ⟨⟨c1, c2, c3⟩, c4⟩ := h2
  have hs : s = s' := by
    rcases Nat.lt_trichotomy s s' with h | h | h
    · have hb := c3 s a1 h
      rcases a4 with ⟨a, -⟩ | ⟨-, a, -⟩
      · omega
      · exact absurd hb a
    · exact h
    · have hb := a3 s' c1 h
      rcases c4 with ⟨a, -⟩ | ⟨-, a, -⟩
      · omega
      · exact absurd hb a
  subst hs
  rcases a4 with ⟨a, a5, a6, a7⟩ | ⟨a, a5, a6⟩
  · rcases c4 with ⟨c, c5, c6, c7⟩ | ⟨c, c5, c6⟩
    · omega
    · omega
  · rcases c4 with ⟨c, c5, c6, c7⟩ | ⟨c, c5, c6⟩
    · omega
    · have nld : ltr b s → ¬ dgt b s := fun x y => by unfold ltr at x; unfold dgt at y; omega
      rcases a6 with ⟨x1, x2, x3, x4⟩ | ⟨x1, x2, x3⟩ | ⟨x1, x2, x3, x4, x5⟩ <;> rcases c6 with ⟨y1, y2, y3, y4⟩ | ⟨y1, y2, y3⟩ | ⟨y1, y2, y3, y4, y5⟩
      · have := run_u x2 y2
        subst this
        exact ⟨rfl, rfl, wdp_u x3 y3, by omega⟩
      · exact absurd y1 (nld x1)
      · exact absurd x1 y1
      · exact absurd x1 (nld y1)
      · have := run_u x2 y2
        subst this
        rcases x3 with ⟨z1, z2, z3⟩ | ⟨z1, z2, z3⟩ <;> rcases y3 with ⟨w1, w2, w3⟩ | ⟨w1, w2, w3⟩
        · exact ⟨rfl, rfl, by omega, by rw [z3, w3]⟩
        · omega
        · omega
        · exact ⟨rfl, rfl, by omega, by omega⟩
      · exact absurd x1 y2
      · exact absurd y1 x1
      · exact absurd y1 x2
      · exact ⟨rfl, by omega, sgp_u x4 y4, by omega⟩
theorem tkn_lt {b : Nat → Nat} {e p s q κ v : Nat} (h : tkn b e p s q κ v) : p ≤ s ∧ s ≤ q ∧ q ≤ e ∧ (κ ≠ 17 → s < q) ∧ (κ = 17 → s = e ∧ q = e) ∧ κ < 32 ∧ (κ = 16 → v < 1000) ∧ (κ ≠ 16 → v = 0) := by
  obtain ⟨⟨a1, a2, a3⟩, a4⟩ := h
  rcases a4 with ⟨a, a5, a6, a7⟩ | ⟨a, a5, a6⟩
  · exact ⟨a1, by omega, by omega, by omega, by omega, by omega, by omega, by omega⟩
  · rcases a6 with ⟨x1, x2, x3, x4⟩ | ⟨x1, x2, x3⟩ | ⟨x1, x2, x3, x4, x5⟩
    · have hk : κ ≤ 15 := by rcases x3 with ⟨h, -⟩ | ⟨h, -⟩ <;> omega
      have := x2.1
      have := x2.2.1
      exact ⟨a1, by omega, by omega, by omega, by omega, by omega, by omega, by omega⟩
    · have := x2.1
      have := x2.2.1
      rcases x3 with ⟨z1, z2, z3⟩ | ⟨z1, z2, z3⟩
      · have hv := vl_lt (b := b) (s := s) (j := q - s) (fun i hi => x2.2.2.1 (s + i) (by omega) (by omega))
        have hp : 10 ^ (q - s) ≤ 10 ^ 3 := Nat.pow_le_pow_right (by omega) (by omega)
        exact ⟨a1, by omega, by omega, by omega, by omega, by omega, by omega, by omega⟩
      · exact ⟨a1, by omega, by omega, by omega, by omega, by omega, by omega, by omega⟩
    · have hk : (20 ≤ κ ∧ κ < 32) ∨ κ = 18 := by
        rcases x4 with ⟨i, hi, -, r⟩ | ⟨r, -⟩
        · omega
        · omega
      exact ⟨a1, by omega, by omega, by omega, by omega, by omega, by omega, by omega⟩
