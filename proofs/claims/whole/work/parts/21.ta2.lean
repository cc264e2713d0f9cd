/-! fours 2 -/
def S_foursOf : px_S := fun av σ k => match av with
  | [.inr (.inr (some 0)), .inl w] => mt_R σ.2.2 ∧ tok (σ.1 1) ∧ w = nI w.toNatClampNeg ∧ w.toNatClampNeg < 11 ∧ k (some (.inl (nI (sm (t4f (σ.1 1) w.toNatClampNeg) (tN (σ.1 1)))))) σ
  | _ => False
theorem S_foursOf_sp {av : List px_V} {σ : px_M} {k : Option px_V → px_M → Prop} (h : S_foursOf av σ k) : ∃ a, av = [.inr (.inr (some 0)), .inl (nI a)] ∧ mt_R σ.2.2 ∧ tok (σ.1 1) ∧ a < 11 ∧ k (some (.inl (nI (sm (t4f (σ.1 1) a) (tN (σ.1 1)))))) σ := by
  unfold S_foursOf at h
  split at h
  · obtain ⟨h1, h2, h3, h4, h5⟩ := h
    exact ⟨_, by rw [← h3], h1, h2, h4, h5⟩
  · exact h.elim
