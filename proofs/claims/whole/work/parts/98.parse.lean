/-! two readers, step by step -/
def CG (l j : Nat) : Bool := (decide (140 ≤ l) && decide (l < 147) && !(l == 140 && j == 4) && !(l == 144 && j == 0)) || (l == 150 && (j == 8 || j == 9))
def CF (l j : Nat) : Bool := CG l j || (l == 150 && (j == 1 || j == 2))
theorem CF_CG : ∀ l j, CF l j = false → CG l j = false := fun l j h => by simp only [CF, Bool.or_eq_false_iff] at h; exact h.1
def MF (l j : Nat) : Bool := l == 4 || (l == 0 && (j == 6 || j == 7 || j == 9 || j == 10 || j == 11 || j == 12))
/-- what both begin with -/
def cx (σ0 τ0 : px_M) (b : Nat → Nat) (e K : Nat) (pl bh κ v : Nat → Nat) : Prop := cR σ0.2.2 ∧ tp τ0 b e ∧ chn b e K pl bh κ v ∧ ∀ j, j ≤ K → σ0.1 153 j = nI (pl j) ∧ σ0.1 152 j = nI (tcd (κ j) (v j))
def pos (σ0 τ0 : px_M) (K : Nat) (pl bh κ v : Nat → Nat) (σ τ : px_M) (k : Nat) : Prop := (fr CG σ0 σ ∧ fr MF τ0 τ) ∧ k ≤ K ∧ (σ.1 150 8 = nI k ∧ σ.1 150 9 = nI (tcd (κ k) (v k)) ∧ σ.1 150 1 = nI 0) ∧ τ.1 0 6 = nI (pl k) ∧ τ.1 0 7 = nI (bh (k + 1)) ∧ τ.1 0 9 = nI (κ k) ∧ (κ k = 16 → τ.1 0 10 = nI (v k)) ∧ τ.1 0 11 = nI 0
def ded (σ0 τ0 σ τ : px_M) : Prop := (fr CF σ0 σ ∧ fr MF τ0 τ) ∧ ∃ f p, f ≠ 0 ∧ f < 5 ∧ σ.1 150 1 = nI f ∧ τ.1 0 11 = nI f ∧ σ.1 150 2 = nI p ∧ τ.1 0 12 = nI p
def dC (σ : px_M) (n : Nat) (B : Nat → Nat) (nr : Nat) (S C : Nat → Nat) (m ln : Nat) : Prop := ct σ 141 n B ∧ σ.1 143 0 = nI nr ∧ (∀ r, r ≤ nr → σ.1 144 r = nI (S r)) ∧ (∀ r, r < nr → σ.1 145 r = nI (us S C r)) ∧ (nr < 6 → σ.1 145 nr = nI (uset (fun k => C (S nr + k)) (m - S nr))) ∧ (∀ r, nr < r → r < 6 → σ.1 145 r = nI 0) ∧ (∀ i, i < m → σ.1 146 i = nI (ctr (C i))) ∧ σ.1 143 4 = nI m ∧ σ.1 140 2 = nI ln ∧ σ.1 140 3 = nI 0
def dM (τ : px_M) (n : Nat) (B : Nat → Nat) (nr : Nat) (S C : Nat → Nat) (m ln : Nat) : Prop := τ.1 4 1 = nI n ∧ (∀ h, h < 11 → τ.1 4 (2 + h) = nI (B h)) ∧ τ.1 4 158 = nI nr ∧ (∀ r, r < nr → τ.1 4 (159 + r) = nI (S r) ∧ τ.1 4 (165 + r) = nI (S (r + 1) - S r)) ∧ τ.1 4 171 = nI m ∧ (∀ i, i < m → τ.1 4 (172 + i) = nI (C i)) ∧ τ.1 4 0 = nI ln ∧ τ.1 4 13 = nI 0
def dT2 (nr : Nat) (S C : Nat → Nat) (m : Nat) (ts : List Bool) : Prop := rul nr S C ∧ S nr ≤ m ∧ m ≤ 900 ∧ tR (fun i => C (S nr + i)) (m - S nr) ts
def ex (σ0 τ0 : px_M) (K : Nat) (pl bh κ v : Nat → Nat) (n : Nat) (B : Nat → Nat) (nr : Nat) (S : Nat → Nat) (ln : Nat) (σ τ : px_M) (k : Nat) (C : Nat → Nat) (m : Nat) (ts : List Bool) : Prop := pos σ0 τ0 K pl bh κ v σ τ k ∧ dC σ n B nr S C m ln ∧ dM τ n B nr S C m ln ∧ dT2 nr S C m ts
def CA (l j : Nat) : Bool := l == 150 && (j == 8 || j == 9)
def CB (l j : Nat) : Bool := l == 150 && (j == 1 || j == 2)
def MB (l j : Nat) : Bool := l == 0 && (j == 11 || j == 12)
theorem CG_CA : ∀ l j, CG l j = false → CA l j = false := fun l j h => by
  cases q : CA l j with
  | false => rfl
  | true =>
    simp only [CA, Bool.or_eq_true, Bool.and_eq_true, beq_iff_eq] at q
    rcases q with ⟨rfl, rfl | rfl⟩ <;> simp [CG] at h
theorem CF_CB : ∀ l j, CF l j = false → CB l j = false := fun l j h => by
  cases q : CB l j with
  | false => rfl
  | true =>
    simp only [CB, Bool.or_eq_true, Bool.and_eq_true, beq_iff_eq] at q
    rcases q with ⟨rfl, rfl | rfl⟩ <;> simp [CF, CG] at h
theorem MF_NX : ∀ l j, MF l j = false → NX l j = false := fun l j h => by
  cases q : NX l j with
  | false => rfl
  | true =>
    simp only [NX, Bool.or_eq_true, Bool.and_eq_true, beq_iff_eq] at q
    rcases q with ⟨rfl, ((rfl | rfl) | rfl) | rfl⟩ <;> simp [MF] at h
theorem MF_MB : ∀ l j, MF l j = false → MB l j = false := fun l j h => by
  cases q : MB l j with
  | false => rfl
  | true =>
    simp only [MB, Bool.or_eq_true, Bool.and_eq_true, beq_iff_eq] at q
    rcases q with ⟨rfl, rfl | rfl⟩ <;> simp [MF] at h
section
variable {σ0 τ0 σ τ : px_M} {b pl bh κ v : Nat → Nat} {e K k n nr m ln : Nat} {B S C : Nat → Nat} {ts us : List Bool}
theorem dC_fr {Q : Nat → Nat → Bool} {υ : px_M} (h : fr Q σ υ) (hq : ∀ l j, 140 ≤ l → l < 147 → Q l j = false) (hd : dC σ n B nr S C m ln) : dC υ n B nr S C m ln := by
  obtain ⟨d1, d2, d3, d4, d5, d6, d7, d8, d9, d10⟩ := hd
  exact ⟨ct_fr h (fun j => hq _ j (by omega) (by omega)) (fun j => hq _ j (by omega) (by omega)) d1, by rw [h.1 _ _ (hq _ _ (by omega) (by omega))]; exact d2, fun r hr => by rw [h.1 _ _ (hq _ _ (by omega) (by omega))]; exact d3 r hr, fun r hr => by rw [h.1 _ _ (hq _ _ (by omega) (by omega))]; exact d4 r hr, fun hr => by rw [h.1 _ _ (hq _ _ (by omega) (by omega))]; exact d5 hr, fun r h1 h2 => by rw [h.1 _ _ (hq _ _ (by omega) (by omega))]; exact d6 r h1 h2, fun i hi => by rw [h.1 _ _ (hq _ _ (by omega) (by omega))]; exact d7 i hi, by rw [h.1 _ _ (hq _ _ (by omega) (by omega))]; exact d8, by rw [h.1 _ _ (hq _ _ (by omega) (by omega))]; exact d9, by rw [h.1 _ _ (hq _ _ (by omega) (by omega))]; exact d10⟩
theorem dM_fr {Q : Nat → Nat → Bool} {υ : px_M} (h : fr Q τ υ) (hq : ∀ j, Q 4 j = false) (hd : dM τ n B nr S C m ln) : dM υ n B nr S C m ln := by
  obtain ⟨d1, d2, d3, d4, d5, d6, d7, d8⟩ := hd
  exact ⟨by rw [h.1 _ _ (hq _)]; exact d1, fun r hr => by rw [h.1 _ _ (hq _)]; exact d2 r hr, by rw [h.1 _ _ (hq _)]; exact d3, fun r hr => ⟨by rw [h.1 _ _ (hq _)]; exact (d4 r hr).1, by rw [h.1 _ _ (hq _)]; exact (d4 r hr).2⟩, by rw [h.1 _ _ (hq _)]; exact d5, fun i hi => by rw [h.1 _ _ (hq _)]; exact d6 i hi, by rw [h.1 _ _ (hq _)]; exact d7, by rw [h.1 _ _ (hq _)]; exact d8⟩
theorem CA_q : ∀ l j, 140 ≤ l → l < 147 → CA l j = false := fun l j h1 h2 => by
  have : ¬ l = 150 := by omega
  simp [CA, this]
theorem cx_t (hx : cx σ0 τ0 b e K pl bh κ v) (hf : fr MF τ0 τ) : tp τ b e := tp_fr hf rfl (fun _ => rfl) hx.2.1
theorem cx_c (hx : cx σ0 τ0 b e K pl bh κ v) (hf : fr CG σ0 σ) : cR σ.2.2 ∧ ∀ j, j ≤ K → σ.1 153 j = nI (pl j) ∧ σ.1 152 j = nI (tcd (κ j) (v j)) := ⟨cR_fr hf hx.1, fun j hj => ⟨by rw [hf.1 153 j rfl]; exact (hx.2.2.2 j hj).1, by rw [hf.1 152 j rfl]; exact (hx.2.2.2 j hj).2⟩⟩
theorem cx_k (hx : cx σ0 τ0 b e K pl bh κ v) (hk : k ≤ K) : κ k < 32 ∧ (κ k = 16 → v k < 1000) ∧ (κ k ≠ 16 → v k = 0) ∧ pl k ≤ e ∧ bh (k + 1) ≤ e ∧ (κ k ≠ 17 → k < K) ∧ K ≤ e ∧ e ≤ 900 := by
  obtain ⟨-, ht, ⟨h0, h1, h2, h3, h4⟩, -⟩ := hx
  obtain ⟨l1, l2, l3, l4, l5, l6, l7, l8⟩ := tkn_lt (h2 k hk)
  refine ⟨l6, l7, l8, by omega, by omega, fun h => ?_, h1, ht.2.2.1⟩
  rcases Nat.lt_or_eq_of_le hk with q | q
  · exact q
  · subst q; exact absurd h4 h
theorem tcd_i0 : ∀ κ, κ < 32 → ∀ c, c < 32 → (κ == 16 || c == 16 || (tcd κ 0 == tcd c 0) == (κ == c)) = true := by decide +kernel
theorem tcd_1000 : ∀ c, c < 32 → (c == 16 || c == 19 || decide (1000 ≤ tcd c 0)) = true := by decide +kernel
theorem tcd_lt : ∀ c, c < 32 → tcd c 0 < 4100 := by decide +kernel
theorem tcd_eq (hx : cx σ0 τ0 b e K pl bh κ v) (hk : k ≤ K) {c : Nat} (hc : c < 32) (h16 : c ≠ 16) (h19 : c ≠ 19) : nI (tcd (κ k) (v k)) = nI (tcd c 0) ↔ κ k = c := by
  obtain ⟨k1, k2, k3, -⟩ := cx_k hx hk
  have l2 := tcd_lt c hc
  by_cases hk16 : κ k = 16
  · have hv := k2 hk16
    have := tcd_1000 c hc
    rw [Bool.or_eq_true, Bool.or_eq_true, beq_iff_eq, beq_iff_eq, decide_eq_true_eq] at this
    rw [hk16, show tcd 16 (v k) = v k from rfl, nI_eq (by omega) (by omega)]
    omega
  · rw [k3 hk16]
    have l1 := tcd_lt (κ k) k1
    have := tcd_i0 (κ k) k1 c hc
    rw [Bool.or_eq_true, Bool.or_eq_true, beq_iff_eq, beq_iff_eq] at this
    rw [nI_eq (by omega) (by omega)]
    rcases this with (h | h) | h
    · exact absurd h hk16
    · exact absurd h h16
    · have h' : (tcd (κ k) 0 == tcd c 0) = (κ k == c) := by
        cases q1 : (tcd (κ k) 0 == tcd c 0) <;> cases q2 : (κ k == c) <;> simp [q1, q2] at h ⊢
      constructor
      · intro q
        rw [beq_iff_eq.mpr q] at h'
        exact beq_iff_eq.mp h'.symm
      · intro q; rw [q]
theorem tcd_num (hx : cx σ0 τ0 b e K pl bh κ v) (hk : k ≤ K) (h19 : κ k ≠ 19) : nI 1000 ≤ nI (tcd (κ k) (v k)) ↔ κ k ≠ 16 := by
  obtain ⟨k1, k2, k3, -⟩ := cx_k hx hk
  by_cases hk16 : κ k = 16
  · have hv := k2 hk16
    rw [hk16, show tcd 16 (v k) = v k from rfl, nI_leI (by omega) (by omega)]
    omega
  · rw [k3 hk16]
    have l1 := tcd_lt (κ k) k1
    have := tcd_1000 (κ k) k1
    rw [Bool.or_eq_true, Bool.or_eq_true, beq_iff_eq, beq_iff_eq, decide_eq_true_eq] at this
    rw [nI_leI (by omega) (by omega)]
    omega
theorem cx_19 (hx : cx σ0 τ0 b e K pl bh κ v) (hk : k ≤ K) : κ k ≠ 19 := by
  obtain ⟨-, -, ⟨-, -, h2, -, -⟩, -⟩ := hx
  obtain ⟨-, a4⟩ := h2 k hk
  rcases a4 with ⟨-, -, a6, -⟩ | ⟨-, -, a6⟩
  · omega
  · rcases a6 with ⟨-, -, x3, -⟩ | ⟨-, -, x3⟩ | ⟨-, -, -, x4, -⟩
    · rcases x3 with ⟨h, -⟩ | ⟨h, -⟩ <;> omega
    · rcases x3 with ⟨-, z2, -⟩ | ⟨-, z2, -⟩ <;> omega
    · rcases x4 with ⟨i, hi, -, r⟩ | ⟨r, -⟩ <;> omega
/-- one step on, for both -/
theorem j_adv (hx : cx σ0 τ0 b e K pl bh κ v) (h : ex σ0 τ0 K pl bh κ v n B nr S ln σ τ k C m ts) (h17 : κ k ≠ 17) : ∃ σ' τ', f_9015 tT σ 150 = some σ' ∧ f_9 tT τ 0 = some τ' ∧ ex σ0 τ0 K pl bh κ v n B nr S ln σ' τ' (k + 1) C m ts ∧ fr CA σ σ' ∧ fr NX τ τ' := by
  obtain ⟨⟨⟨f1, f2⟩, hk, ⟨p1, p2, p3⟩, p4, p5, p6, p7, p8⟩, d1, d2, d3⟩ := h
  obtain ⟨k1, k2, k3, k4, k5, k6, k7, k8⟩ := cx_k hx hk
  have hkK := k6 h17
  obtain ⟨hR, hrow⟩ := cx_c hx f1
  have ht := cx_t hx f2
  obtain ⟨s, q, κ', v', υ, y1, y2, y3, y4, y5, y6, y7⟩ := e_token ht p5 k5
  obtain ⟨-, -, ⟨-, -, hch, -, -⟩, -⟩ := id hx
  obtain ⟨u1, u2, u3, u4⟩ := tkn_u y2 (hch (k + 1) hkK)
  subst u1 u2 u3 u4
  have a1 : ¬ nI 900 ≤ nI k := by rw [nI_leI (by omega) (by omega)]; omega
  have a2 : ¬ nI (tcd (κ k) (v k)) = nI 3005 := fun q => h17 ((tcd_eq hx hk (c := 17) (by omega) (by omega) (by omega)).mp q)
  have c1 : vp_in (nI (k + 1)) 901 := (vp_in_eq (by omega)).mpr (by omega)
  have c2 : (nI (k + 1)).toNatClampNeg = k + 1 := nI_clamp (by omega)
  have hr2 := (hrow (k + 1) hkK).2
  have w1 : fr CA σ (px_wi (px_wi σ 150 8 (nI (k + 1))) 150 9 (nI (tcd (κ (k + 1)) (v (k + 1))))) := fr_wi (fr_wi (fr_rf _ _) _ rfl) _ rfl
  refine ⟨px_wi (px_wi σ 150 8 (nI (k + 1))) 150 9 (nI (tcd (κ (k + 1)) (v (k + 1)))), υ, ?_, y1, ⟨⟨⟨fr_tr f1 (fr_mono w1 CG_CA), fr_tr f2 (fr_mono y3 MF_NX)⟩, by omega, ⟨?_, wi_s _ _ _ _, ?_⟩, y4, y5, y6, y7, ?_⟩, dC_fr w1 CA_q d1, dM_fr y3 (fun _ => rfl) d2, d3⟩, w1, y3⟩
  · unfold f_9015
    have e1 : (px_wi σ 150 8 (nI (k + 1))).1 150 8 = nI (k + 1) := wi_s _ _ _ _
    have e2 : (px_wi σ 150 8 (nI (k + 1))).1 152 (k + 1) = nI (tcd (κ (k + 1)) (v (k + 1))) := by rw [wi_n (by decide)]; exact hr2
    have e3 : (px_wi σ 150 8 (nI (k + 1))).2.2 150 5 = some 152 := rc_150_5 hR
    rw [p1, p2, nI_add]
    generalize px_wi σ 150 8 (nI (k + 1)) = ω at e1 e2 e3 ⊢
    simp only [la_150, la_152, a1, a2, e1, e2, e3, c1, c2, gd_tt, oA_arr, px_obj_s, Option.bind_some, Option.map_some, Option.bind_none, eq_self, true_or, or_true, px_av_0, px_av_1, px_av_2, px_av_10, px_av_11, bn, wi_1, wi_2, wl_1, wl_21, wl_22, wr_1, wr_21, wr_22, Sum.elim_inl, Sum.elim_inr, ↓reduceIte, Nat.reduceLT, Nat.reduceLeDiff, not_false_eq_true, not_true_eq_false, Nat.reduceEqDiff, Nat.reduceAdd, reduceCtorEq, and_true, true_and, and_false, false_and, false_or, or_false]
  · show px_up (px_wi σ 150 8 (nI (k + 1))).1 150 9 (nI (tcd (κ (k + 1)) (v (k + 1)))) 150 8 = _
    rw [up_s, if_neg (by decide)]; exact wi_s _ _ _ _
  · show px_up (px_up σ.1 150 8 (nI (k + 1))) 150 9 (nI (tcd (κ (k + 1)) (v (k + 1)))) 150 1 = _
    rw [up_s, if_neg (by decide), up_s, if_neg (by decide)]; exact p3
  · rw [y3.1 0 11 rfl]; exact p8
/-- what ends the reading, for both -/
theorem j_blame (hx : cx σ0 τ0 b e K pl bh κ v) (h : pos σ0 τ0 K pl bh κ v σ τ k) {f : Nat} (hf : f = 2 ∨ ((f = 3 ∨ f = 4) ∧ κ k ≠ 18)) : ∃ σ' τ', f_9018 tT σ 150 (nI f) = some (nI 0, σ') ∧ f_10 tT τ 0 (nI f) = some τ' ∧ ded σ0 τ0 σ' τ' := by
  obtain ⟨⟨f1, f2⟩, hk, ⟨p1, p2, p3⟩, p4, p5, p6, p7, p8⟩ := h
  obtain ⟨k1, k2, k3, k4, k5, k6, k7, k8⟩ := cx_k hx hk
  obtain ⟨hR, hrow⟩ := cx_c hx f1
  have hr3 := (hrow k hk).1
  have c1 : vp_in (nI k) 901 := (vp_in_eq (by omega)).mpr (by omega)
  have c2 : (nI k).toNatClampNeg = k := nI_clamp (by omega)
  have z0 : nI 0 = nI 0 := rfl
  -- the kind that both write
  obtain ⟨g, hg, hgf⟩ : ∃ g, g = (if κ k = 18 then 1 else f) ∧ (g ≠ 0 ∧ g < 5) := ⟨_, rfl, by split <;> omega⟩
  have cls : ∀ g, f_9018 tT σ 150 (nI f) = some (nI 0, px_wi (px_wi σ 150 1 (nI g)) 150 2 (nI (pl k))) → f_10 tT τ 0 (nI f) = some (px_wi (px_wi τ 0 11 (nI g)) 0 12 (nI (pl k))) → g ≠ 0 → g < 5 → ∃ σ' τ', f_9018 tT σ 150 (nI f) = some (nI 0, σ') ∧ f_10 tT τ 0 (nI f) = some τ' ∧ ded σ0 τ0 σ' τ' := by
    intro g e1 e2 g0 g5
    refine ⟨_, _, e1, e2, ⟨fr_tr (fr_mono f1 CF_CG) (fr_mono (S := CB) (fr_wi (fr_wi (fr_rf _ _) _ rfl) _ rfl) CF_CB), fr_tr f2 (fr_mono (S := MB) (fr_wi (fr_wi (fr_rf _ _) _ rfl) _ rfl) MF_MB)⟩, g, pl k, g0, g5, ?_, ?_, wi_s _ _ _ _, wi_s _ _ _ _⟩
    · show px_up (px_wi σ 150 1 (nI g)).1 150 2 (nI (pl k)) 150 1 = _
      rw [up_s, if_neg (by decide)]; exact wi_s _ _ _ _
    · show px_up (px_wi τ 0 11 (nI g)).1 0 12 (nI (pl k)) 0 11 = _
      rw [up_s, if_neg (by decide)]; exact wi_s _ _ _ _
  have rd : ∀ x : Int32, (px_wi σ 150 1 x).1 150 8 = nI k := fun x => by
    show px_up σ.1 150 1 x 150 8 = _
    rw [up_s, if_neg (by decide)]; exact p1
  have rp : ∀ x : Int32, (px_wi σ 150 1 x).1 153 k = nI (pl k) := fun x => by rw [wi_n (by decide)]; exact hr3
  have rr : ∀ x : Int32, (px_wi σ 150 1 x).2.2 150 6 = some 153 := fun x => rc_150_6 hR
  have r6 : ∀ x : Int32, (px_wi τ 0 11 x).1 0 6 = nI (pl k) := fun x => by rw [w_o (by decide)]; exact p4
  have b18 : nI (κ k) = nI 18 ↔ κ k = 18 := nI_eq (by omega) (by omega)
  have t18 := tcd_eq hx hk (c := 18) (by omega) (by omega) (by omega)
  have t18' : nI (tcd (κ k) (v k)) = nI 3004 ↔ κ k = 18 := t18
  by_cases h18 : κ k = 18
  · have hf2 : f = 2 := by omega
    subst hf2
    refine cls 1 ?_ ?_ (by omega) (by omega)
    · have a1 := t18'.mpr h18
      have rd1 := rd (nI 1)
      have rp1 := rp (nI 1)
      have rr1 := rr (nI 1)
      unfold f_9018 f_9018_44
      rw [p2]
      generalize px_wi σ 150 1 (nI 1) = ω at rd1 rp1 rr1 ⊢
      simp only [la_150, la_153, p3, a1, rd1, rp1, rr1, c1, c2, gd_tt, oA_arr, px_obj_s, Option.bind_some, Option.map_some, Option.bind_none, eq_self, true_or, or_true, px_av_0, px_av_1, px_av_2, px_av_10, px_av_11, bn, wi_1, wi_2, wl_1, wl_21, wl_22, wr_1, wr_21, wr_22, Sum.elim_inl, Sum.elim_inr, ↓reduceIte, Nat.reduceLT, Nat.reduceLeDiff, not_false_eq_true, not_true_eq_false, Nat.reduceEqDiff, Nat.reduceAdd, reduceCtorEq, and_true, true_and, and_false, false_and, false_or, or_false]
    · have a1 := b18.mpr h18
      have r61 := r6 (nI 1)
      unfold f_10
      generalize px_wi τ 0 11 (nI 1) = ω at r61 ⊢
      simp only [la_0, p8, p6, a1, r61, gd_tt, oA_arr, px_obj_s, Option.bind_some, Option.map_some, Option.bind_none, eq_self, true_or, or_true, px_av_0, px_av_1, px_av_2, px_av_10, px_av_11, bn, wi_1, wi_2, wl_1, wl_21, wl_22, wr_1, wr_21, wr_22, Sum.elim_inl, Sum.elim_inr, ↓reduceIte, Nat.reduceLT, Nat.reduceLeDiff, not_false_eq_true, not_true_eq_false, Nat.reduceEqDiff, Nat.reduceAdd, reduceCtorEq, and_true, true_and, and_false, false_and, false_or, or_false]
  · have a2 : ¬ nI (tcd (κ k) (v k)) = nI 3004 := mt t18'.mp h18
    have a3 : ¬ nI (κ k) = nI 18 := mt b18.mp h18
    refine cls f ?_ ?_ (by omega) (by omega)
    · have rd1 := rd (nI f)
      have rp1 := rp (nI f)
      have rr1 := rr (nI f)
      unfold f_9018 f_9018_44
      rw [p2]
      by_cases hf2 : f = 2
      · subst hf2
        generalize px_wi σ 150 1 (nI 2) = ω at rd1 rp1 rr1 ⊢
        simp only [la_150, la_153, p3, a2, rd1, rp1, rr1, c1, c2, gd_tt, oA_arr, px_obj_s, Option.bind_some, Option.map_some, Option.bind_none, eq_self, true_or, or_true, px_av_0, px_av_1, px_av_2, px_av_10, px_av_11, bn, wi_1, wi_2, wl_1, wl_21, wl_22, wr_1, wr_21, wr_22, Sum.elim_inl, Sum.elim_inr, ↓reduceIte, Nat.reduceLT, Nat.reduceLeDiff, not_false_eq_true, not_true_eq_false, Nat.reduceEqDiff, Nat.reduceAdd, reduceCtorEq, and_true, true_and, and_false, false_and, false_or, or_false]
      · have a4 : ¬ nI f = nI 2 := by rw [nI_eq (by omega) (by omega)]; exact hf2
        generalize px_wi σ 150 1 (nI f) = ω at rd1 rp1 rr1 ⊢
        simp only [la_150, la_153, p3, a4, rd1, rp1, rr1, c1, c2, gd_tt, oA_arr, px_obj_s, Option.bind_some, Option.map_some, Option.bind_none, eq_self, true_or, or_true, px_av_0, px_av_1, px_av_2, px_av_10, px_av_11, bn, wi_1, wi_2, wl_1, wl_21, wl_22, wr_1, wr_21, wr_22, Sum.elim_inl, Sum.elim_inr, ↓reduceIte, Nat.reduceLT, Nat.reduceLeDiff, not_false_eq_true, not_true_eq_false, Nat.reduceEqDiff, Nat.reduceAdd, reduceCtorEq, and_true, true_and, and_false, false_and, false_or, or_false]
    · have r61 := r6 (nI f)
      unfold f_10
      generalize px_wi τ 0 11 (nI f) = ω at r61 ⊢
      simp only [la_0, p8, p6, a3, r61, gd_tt, oA_arr, px_obj_s, Option.bind_some, Option.map_some, Option.bind_none, eq_self, true_or, or_true, px_av_0, px_av_1, px_av_2, px_av_10, px_av_11, bn, wi_1, wi_2, wl_1, wl_21, wl_22, wr_1, wr_21, wr_22, Sum.elim_inl, Sum.elim_inr, ↓reduceIte, Nat.reduceLT, Nat.reduceLeDiff, not_false_eq_true, not_true_eq_false, Nat.reduceEqDiff, Nat.reduceAdd, reduceCtorEq, and_true, true_and, and_false, false_and, false_or, or_false]
theorem m_is (hx : cx σ0 τ0 b e K pl bh κ v) (h : pos σ0 τ0 K pl bh κ v σ τ k) {c : Nat} (hc : c < 32) : f_11 tT τ 0 (nI c) = some (mb (decide (κ k = c))) := by
  obtain ⟨⟨f1, f2⟩, hk, ⟨p1, p2, p3⟩, p4, p5, p6, p7, p8⟩ := h
  obtain ⟨k1, -⟩ := cx_k hx hk
  unfold f_11
  by_cases q : κ k = c
  · rw [decide_eq_true q, mb_t1]
    rw [q] at p6
    simp only [la_0, p8, p6, gd_tt, oA_arr, px_obj_s, Option.bind_some, Option.map_some, Option.bind_none, eq_self, true_or, or_true, px_av_0, px_av_1, px_av_2, px_av_10, px_av_11, bn, wi_1, wi_2, wl_1, wl_21, wl_22, wr_1, wr_21, wr_22, Sum.elim_inl, Sum.elim_inr, ↓reduceIte, Nat.reduceLT, Nat.reduceLeDiff, not_false_eq_true, not_true_eq_false, Nat.reduceEqDiff, Nat.reduceAdd, reduceCtorEq, and_true, true_and, and_false, false_and, false_or, or_false]
  · have a1 : ¬ nI (κ k) = nI c := by rw [nI_eq (by omega) (by omega)]; exact q
    rw [decide_eq_false q, mb_f0]
    simp only [la_0, p8, p6, a1, gd_tt, oA_arr, px_obj_s, Option.bind_some, Option.map_some, Option.bind_none, eq_self, true_or, or_true, px_av_0, px_av_1, px_av_2, px_av_10, px_av_11, bn, wi_1, wi_2, wl_1, wl_21, wl_22, wr_1, wr_21, wr_22, Sum.elim_inl, Sum.elim_inr, ↓reduceIte, Nat.reduceLT, Nat.reduceLeDiff, not_false_eq_true, not_true_eq_false, Nat.reduceEqDiff, Nat.reduceAdd, reduceCtorEq, and_true, true_and, and_false, false_and, false_or, or_false]
/-- dead: the model does nothing more -/
theorem z_fails {f : Nat} (hf : f ≠ 0) (hf5 : f < 5) (h : τ.1 0 11 = nI f) (x : Int32) : f_10 tT τ 0 x = some τ := by
  have a : ¬ nI f = nI 0 := by rw [nI_eq (by omega) (by omega)]; exact hf
  simp only [f_10, la_0, h, a, gd_tt, oA_arr, px_obj_s, Option.bind_some, Option.map_some, Option.bind_none, eq_self, true_or, or_true, px_av_0, px_av_1, px_av_2, px_av_10, px_av_11, bn, wi_1, wi_2, wl_1, wl_21, wl_22, wr_1, wr_21, wr_22, Sum.elim_inl, Sum.elim_inr, ↓reduceIte, Nat.reduceLT, Nat.reduceLeDiff, not_false_eq_true, not_true_eq_false, Nat.reduceEqDiff, Nat.reduceAdd, reduceCtorEq, and_true, true_and, and_false, false_and, false_or, or_false]
theorem z_is {f : Nat} (hf : f ≠ 0) (hf5 : f < 5) (h : τ.1 0 11 = nI f) (x : Int32) : f_11 tT τ 0 x = some (nI 0) := by
  have a : ¬ nI f = nI 0 := by rw [nI_eq (by omega) (by omega)]; exact hf
  simp only [f_11, la_0, h, a, gd_tt, oA_arr, px_obj_s, Option.bind_some, Option.map_some, Option.bind_none, eq_self, true_or, or_true, px_av_0, px_av_1, px_av_2, px_av_10, px_av_11, bn, wi_1, wi_2, wl_1, wl_21, wl_22, wr_1, wr_21, wr_22, Sum.elim_inl, Sum.elim_inr, ↓reduceIte, Nat.reduceLT, Nat.reduceLeDiff, not_false_eq_true, not_true_eq_false, Nat.reduceEqDiff, Nat.reduceAdd, reduceCtorEq, and_true, true_and, and_false, false_and, false_or, or_false]
theorem z_eats {f : Nat} (hf : f ≠ 0) (hf5 : f < 5) (h : τ.1 0 11 = nI f) (x : Int32) : f_12 tT τ 0 x = some (nI 0, τ) := by
  simp only [f_12, la_0, z_is hf hf5 h, gd_tt, oA_arr, px_obj_s, Option.bind_some, Option.map_some, Option.bind_none, eq_self, true_or, or_true, px_av_0, px_av_1, px_av_2, px_av_10, px_av_11, bn, wi_1, wi_2, wl_1, wl_21, wl_22, wr_1, wr_21, wr_22, Sum.elim_inl, Sum.elim_inr, ↓reduceIte, Nat.reduceLT, Nat.reduceLeDiff, not_false_eq_true, not_true_eq_false, Nat.reduceEqDiff, Nat.reduceAdd, reduceCtorEq, and_true, true_and, and_false, false_and, false_or, or_false]
theorem z_codes {f : Nat} (hf : f ≠ 0) (hf5 : f < 5) (h : τ.1 0 11 = nI f) (x : Int32) : f_19 tT τ 0 x = some τ := by
  have a : ¬ nI f = nI 0 := by rw [nI_eq (by omega) (by omega)]; exact hf
  simp only [f_19, la_0, h, a, gd_tt, oA_arr, px_obj_s, Option.bind_some, Option.map_some, Option.bind_none, eq_self, true_or, or_true, px_av_0, px_av_1, px_av_2, px_av_10, px_av_11, bn, wi_1, wi_2, wl_1, wl_21, wl_22, wr_1, wr_21, wr_22, Sum.elim_inl, Sum.elim_inr, ↓reduceIte, Nat.reduceLT, Nat.reduceLeDiff, not_false_eq_true, not_true_eq_false, Nat.reduceEqDiff, Nat.reduceAdd, reduceCtorEq, and_true, true_and, and_false, false_and, false_or, or_false]
theorem z_takes {f : Nat} (hf : f ≠ 0) (hf5 : f < 5) (h : τ.1 0 11 = nI f) (x y : Int32) : f_13 tT τ 0 x y = some (τ.1 0 10, τ) := by
  have a : ¬ nI f = nI 0 := by rw [nI_eq (by omega) (by omega)]; exact hf
  simp only [f_13, f_13_37, la_0, h, a, z_is hf hf5 h, z_fails hf hf5 h, gd_tt, oA_arr, px_obj_s, Option.bind_some, Option.map_some, Option.bind_none, eq_self, true_or, or_true, px_av_0, px_av_1, px_av_2, px_av_10, px_av_11, bn, wi_1, wi_2, wl_1, wl_21, wl_22, wr_1, wr_21, wr_22, Sum.elim_inl, Sum.elim_inr, ↓reduceIte, Nat.reduceLT, Nat.reduceLeDiff, not_false_eq_true, not_true_eq_false, Nat.reduceEqDiff, Nat.reduceAdd, reduceCtorEq, and_true, true_and, and_false, false_and, false_or, or_false]
end
