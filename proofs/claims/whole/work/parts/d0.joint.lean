/-! one memory for both -/
theorem mR_lt : ∀ q ∈ mR_l, q.1 < 100 := by decide
theorem cR_ge : ∀ q ∈ cR_l, 100 ≤ q.1 := by decide
section
variable {σ τ σ' τ' : px_M}
theorem ST_lo (h : ST σ τ) (l : lo τ τ') : ST σ τ' := by
  obtain ⟨⟨hR, hRm⟩, ha, ⟨i0, i1⟩, ⟨K, N, k1, k2⟩, ⟨b, t, t1, t2, t3, t4, t5, t6⟩, ⟨hf1, hf2⟩, hdr⟩ := h
  have o1 : ∀ a, a < 100 → ∀ j, τ'.1 a j = τ.1 a j := fun a ha j => (l a ha j).1
  have an : ∀ A off, anX σ τ A off → anX σ τ' A off := fun A off hx => by
    obtain ⟨n, B, nr, S, C, d, G, ln, h1, h2⟩ := hx
    exact ⟨n, B, nr, S, C, d, G, ln, h1, anM_copy (fun k _ => o1 1 (by omega) _) h1.2.2.1 h2⟩
  have im : ∀ i, imX σ τ i → imX σ τ' i := fun i hi => by
    rcases hi with ⟨h1, h2⟩ | ⟨h1, h2, h3⟩
    · exact Or.inl ⟨h1, by rw [o1 2 (by omega)]; exact h2⟩
    · exact Or.inr ⟨h1, by rw [o1 2 (by omega)]; exact h2, an _ _ h3⟩
  refine ⟨⟨hR, fun q hq => by rw [(l q.1 (mR_lt q hq) q.2.1).2.2]; exact hRm q hq⟩, an _ _ ha, ⟨im 0 i0, im 1 i1⟩, ⟨K, N, k1, fun r hr => ?_⟩, ⟨b, t, t1, t2, by rw [o1 0 (by omega)]; exact t3, t4, fun i hi => by rw [o1 3 (by omega)]; exact t5 i hi, t6⟩, ⟨by rw [o1 0 (by omega)]; exact hf1, by rw [o1 0 (by omega)]; exact hf2⟩, hdr⟩
  rcases k2 r hr with ⟨q1, q2⟩ | ⟨s, m, q1, q2, q3, q4, q5⟩
  · exact Or.inl ⟨q1, by rw [o1 35 (by omega)]; exact q2⟩
  · exact Or.inr ⟨s, m, q1, q2, q3, by rw [o1 35 (by omega)]; exact q4, by rw [o1 36 (by omega)]; exact q5.1, fun k hk => by rw [(l 37 (by omega) _).2.1]; exact q5.2 k hk⟩
theorem ct_hi {t n : Nat} {B : Nat → Nat} (l : hi σ σ') (ht : 100 ≤ t) (h : ct σ t n B) : ct σ' t n B := by
  obtain ⟨h1, h2, h3, h4, h5, h6⟩ := h
  exact ⟨h1, h2, by rw [(l t ht 1).2.2]; exact h3, h4, by rw [(l t ht 0).1]; exact h5, fun g hg => by rw [(l (t + 1) (by omega) g).1]; exact h6 g hg⟩
theorem anC_hi {A n nr d : Nat} {B S C : Nat → Nat} {G : Nat → Nat → Int32} {ln : Int32} (l : hi σ σ') (hA : 100 ≤ A) (h : anC σ A n B nr S C d G ln) : anC σ' A n B nr S C d G ln := by
  have o1 : ∀ a, 100 ≤ a → ∀ j, σ'.1 a j = σ.1 a j := fun a ha j => (l a ha j).1
  have o3 : ∀ a, 100 ≤ a → ∀ j, σ'.2.2 a j = σ.2.2 a j := fun a ha j => (l a ha j).2.2
  obtain ⟨c1, ⟨r0, ⟨r1, r2, r3⟩, r4, r5, r6, r7, r8⟩, c3, ⟨g1, g2, L, g3, g4, g5⟩, c5, c6⟩ := h
  refine ⟨ct_hi l (by omega) c1, ⟨r0, ⟨by rw [o3 _ (by omega)]; exact r1, by rw [o3 _ (by omega)]; exact r2, by rw [o3 _ (by omega)]; exact r3⟩, by rw [o1 _ (by omega)]; exact r4, fun r hr => by rw [o1 _ (by omega)]; exact r5 r hr, fun r hr => by rw [o1 _ (by omega)]; exact r6 r hr, fun i hi => by rw [o1 _ (by omega)]; exact r7 i hi, by rw [o1 _ (by omega)]; exact r8⟩, c3, ⟨g1, by rw [o1 _ hA]; exact g2, L, g3, by rw [o1 _ hA]; exact g4, fun i hi => ⟨fun x hx => by rw [o1 _ (by omega)]; exact (g5 i hi).1 x hx, by rw [o1 _ (by omega)]; exact (g5 i hi).2⟩⟩, c5, by rw [o1 _ hA]; exact c6⟩
theorem ST_hi (h : ST σ τ) (l : hi σ σ') : ST σ' τ := by
  obtain ⟨⟨hR, hRm⟩, ha, ⟨i0, i1⟩, ⟨K, N, k1, k2⟩, ⟨b, t, t1, t2, t3, t4, t5, t6⟩, ⟨hf1, hf2⟩, ⟨L, d1, d2⟩, d3⟩ := h
  have o1 : ∀ a, 100 ≤ a → ∀ j, σ'.1 a j = σ.1 a j := fun a ha j => (l a ha j).1
  have an : ∀ A off, 100 ≤ A → anX σ τ A off → anX σ' τ A off := fun A off hA hx => by
    obtain ⟨n, B, nr, S, C, d, G, ln, h1, h2⟩ := hx
    exact ⟨n, B, nr, S, C, d, G, ln, anC_hi l hA h1, h2⟩
  have im : ∀ i, imX σ τ i → imX σ' τ i := fun i hi => by
    rcases hi with ⟨h1, h2⟩ | ⟨h1, h2, h3⟩
    · exact Or.inl ⟨by rw [o1 102 (by omega)]; exact h1, h2⟩
    · exact Or.inr ⟨by rw [o1 102 (by omega)]; exact h1, h2, an _ _ (by omega) h3⟩
  refine ⟨⟨fun q hq => by rw [(l q.1 (cR_ge q hq) q.2.1).2.2]; exact hR q hq, hRm⟩, an _ _ (by omega) ha, ⟨im 0 i0, im 1 i1⟩, ⟨K, N, fun r hr => ?_, k2⟩, ⟨b, t, t1, by rw [o1 150 (by omega)]; exact t2, t3, fun i hi => by rw [o1 151 (by omega)]; exact t4 i hi, t5, t6⟩, ⟨by rw [o1 150 (by omega)]; exact hf1, by rw [o1 150 (by omega)]; exact hf2⟩, ⟨L, d1, by rw [o1 140 (by omega)]; exact d2⟩, by rw [o1 144 (by omega)]; exact d3⟩
  rcases k1 r hr with ⟨q1, q2⟩ | ⟨s, m, q1, q2, q3, q4, q5⟩
  · exact Or.inl ⟨q1, by rw [o1 105 (by omega)]; exact q2⟩
  · exact Or.inr ⟨s, m, q1, q2, q3, by rw [o1 104 (by omega)]; exact q4, by rw [o1 105 (by omega)]; exact q5.1, fun k hk => by rw [(l 103 (by omega) _).2.1]; exact q5.2 k hk⟩
theorem J_II {fc fm : px_M → Option (Int32 × px_M)} (hs : ∀ σ τ, ST σ τ → stII σ τ (fc σ) (fm τ)) (h : ST σ σ) : ∃ r σ1 σ2, fc σ = some (r, σ1) ∧ fm σ1 = some (r, σ2) ∧ ST σ2 σ2 := by
  obtain ⟨r, σ1, τ1, e1, -, -, l1, -⟩ := hs σ σ h
  obtain ⟨r', σ1', τ2, e1', e2, j1, -, j3⟩ := hs σ σ1 (ST_lo h l1)
  rw [e1] at e1'
  cases e1'
  exact ⟨r, σ1, τ2, e1, e2, ST_hi j1 j3⟩
theorem J_LL {fc fm : px_M → Option (Int64 × px_M)} (hs : ∀ σ τ, ST σ τ → stLL σ τ (fc σ) (fm τ)) (h : ST σ σ) : ∃ r σ1 σ2, fc σ = some (r, σ1) ∧ fm σ1 = some (r, σ2) ∧ ST σ2 σ2 := by
  obtain ⟨r, σ1, τ1, e1, -, -, l1, -⟩ := hs σ σ h
  obtain ⟨r', σ1', τ2, e1', e2, j1, -, j3⟩ := hs σ σ1 (ST_lo h l1)
  rw [e1] at e1'
  cases e1'
  exact ⟨r, σ1, τ2, e1, e2, ST_hi j1 j3⟩
theorem J_PP {fc : px_M → Option Int32} {fm : px_M → Option (Int32 × px_M)} (hs : ∀ σ τ, ST σ τ → stPP σ τ (fc σ) (fm τ)) (h : ST σ σ) : ∃ r σ2, fc σ = some r ∧ fm σ = some (r, σ2) ∧ ST σ2 σ2 := by
  obtain ⟨r, τ2, e1, e2, j1, -, j3⟩ := hs σ σ h
  exact ⟨r, τ2, e1, e2, ST_hi j1 j3⟩
end
