/-! the model: between, laysOther, image, restore, numbers, write -/
def kp (v : Int64) : Int32 := if v ≤ lN 1000000 then (if -1000000 ≤ v then v.toInt32 else (-1000000 : Int64).toInt32) else (lN 1000000).toInt32
def btw (c a b : Int32) : Int32 :=
  if nI 3002 < c then
    (if c = nI 3003 then mb (decide (a = b)) else if c = nI 3004 then mb (decide (¬ b ≤ a)) else if c = nI 3005 then mb (decide (¬ a ≤ b)) else if c = nI 3006 then mb (decide (a + b = nI 2)) else mb (decide (¬ a + b ≤ nI 0)))
  else kp (if c = nI 3000 then a.toInt64 + b.toInt64 else if c = nI 3001 then a.toInt64 - b.toInt64 else a.toInt64 * b.toInt64)
def S_between : px_S := fun av σ k => match av with
  | [.inl c, .inl a, .inl b] => k (some (.inl (btw c a b))) σ
  | _ => False
theorem S_between_sp {av : List px_V} {σ : px_M} {k : Option px_V → px_M → Prop} (h : S_between av σ k) : ∃ c a b, av = [.inl c, .inl a, .inl b] ∧ (k (some (.inl (btw c a b))) σ) := by
  unfold S_between at h
  split at h
  · exact ⟨_, _, _, rfl, h⟩
  · exact h.elim
theorem n10 : (nI 1 = nI 0) = False := by simp [nI]
set_option maxHeartbeats 4000000 in
set_option maxRecDepth 100000 in
theorem m_between {tab : px_T} (ht : mt_ok tab) {h : Nat} (hh : 1 ≤ h) : px_Ok tab pn_i47 h S_between := by
  refine px_mth ht.1 (by decide +kernel) (fun av σ k hS => by obtain ⟨c, a, b, rfl, hS⟩ := S_between_sp hS; exact Nat.le_of_ble_eq_true rfl) (fun C hT hC av σ k hS => ?_)
  replace hS := S_between_sp hS
  obtain ⟨c, a, b, rfl, hS⟩ := hS
  subst hT
  refine px_runG (h - 1) ck_47 [] [] 24 hC px_nosp (by omega) px_nocut (fun G Jf hG hJf => ?_)
  simp only [↓hG, ↓hJf, ↓px_go, ↓px_vc, ↓px_ex, ↓px_jp, ↓px_gi, ↓px_gl, ↓px_gr, ↓px_s1, ↓px_s2, ↓px_nl, ↓px_i1, ↓px_l1, ↓px_r1, ↓px_q1, ↓px_i2, ↓px_l2, ↓px_il, ↓px_d0, ↓px_d1, ↓px_d2, ↓px_pop, px_sz, ↓px_sp, ↓px_obj, ↓px_arr, ↓px_rd, ↓px_pt, ↓px_rok, ↓px_rv, ↓px_fill, ↓px_sl, ↓px_li, ↓px_l0, ↓px_lw, ↓px_lc, px_wi, px_wl, px_wr, px_up_at, lc_lt, lc_ge, lc_gt, lc_le, lc_eq, ↓reduceIte, Nat.reduceEqDiff, Nat.reduceLeDiff, Nat.reduceAdd, Nat.reduceSub, reduceCtorEq, List.length_cons, List.length_nil, Option.toList_some, Option.toList_none, List.cons_append, List.nil_append, true_and, and_true, false_and, and_false, true_or, or_true, false_or, or_false, and_self, or_self, not_false_eq_true, not_true_eq_false, false_implies, forall_const, true_implies, ↓bk_47, ↓pn_i47, n10]
  unfold btw at hS
  by_cases h1 : nI 3002 < c
  · rw [if_pos h1] at hS
    refine ⟨fun _ => ?_, fun q => absurd h1 q⟩
    by_cases h2 : c = nI 3003
    · rw [if_pos h2] at hS
      refine ⟨fun q => absurd h2 q, fun _ => ⟨fun q => ?_, fun q => ?_⟩⟩
      · rw [decide_eq_false q] at hS; exact hS
      · rw [decide_eq_true q] at hS; exact hS
    · rw [if_neg h2] at hS
      refine ⟨fun _ => ?_, fun q => absurd q h2⟩
      by_cases h3 : c = nI 3004
      · rw [if_pos h3] at hS
        refine ⟨fun q => absurd h3 q, fun _ => ⟨fun q => ?_, fun q => ?_⟩⟩
        · rw [decide_eq_false (fun z => z q)] at hS; exact hS
        · rw [decide_eq_true q] at hS; exact hS
      · rw [if_neg h3] at hS
        refine ⟨fun _ => ?_, fun q => absurd q h3⟩
        by_cases h4 : c = nI 3005
        · rw [if_pos h4] at hS
          refine ⟨fun q => absurd h4 q, fun _ => ⟨fun q => ?_, fun q => ?_⟩⟩
          · rw [decide_eq_false (fun z => z q)] at hS; exact hS
          · rw [decide_eq_true q] at hS; exact hS
        · rw [if_neg h4] at hS
          refine ⟨fun _ => ?_, fun q => absurd q h4⟩
          by_cases h5 : c = nI 3006
          · rw [if_pos h5] at hS
            refine ⟨fun q => absurd h5 q, fun _ => ⟨fun q => ?_, fun q => ?_⟩⟩
            · rw [decide_eq_false q] at hS; exact hS
            · rw [decide_eq_true q] at hS; exact hS
          · rw [if_neg h5] at hS
            refine ⟨fun _ => ⟨fun q => ?_, fun q => ?_⟩, fun q => absurd q h5⟩
            · rw [decide_eq_false (fun z => z q)] at hS; exact hS
            · rw [decide_eq_true q] at hS; exact hS
  · rw [if_neg h1] at hS
    refine ⟨fun q => absurd q h1, fun _ => ?_⟩
    have fin : ∀ v, k (some (.inl (kp v))) σ → (v ≤ lN 1000000 → (-1000000 ≤ v → k (some (.inl v.toInt32)) σ) ∧ (¬ -1000000 ≤ v → k (some (.inl (-1000000 : Int64).toInt32)) σ)) ∧ (¬ v ≤ lN 1000000 → k (some (.inl (lN 1000000).toInt32)) σ) := by
      intro v hv
      unfold kp at hv
      refine ⟨fun q => ⟨fun q2 => ?_, fun q2 => ?_⟩, fun q => ?_⟩
      · rw [if_pos q, if_pos q2] at hv; exact hv
      · rw [if_pos q, if_neg q2] at hv; exact hv
      · rw [if_neg q] at hv; exact hv
    by_cases h2 : c = nI 3000
    · rw [if_pos h2] at hS
      exact ⟨fun q => absurd h2 q, fun _ => fin _ hS⟩
    · rw [if_neg h2] at hS
      refine ⟨fun _ => ?_, fun q => absurd q h2⟩
      by_cases h3 : c = nI 3001
      · rw [if_pos h3] at hS
        exact ⟨fun q => absurd h3 q, fun _ => fin _ hS⟩
      · rw [if_neg h3] at hS
        exact ⟨fun _ => fin _ hS, fun q => absurd q h3⟩
