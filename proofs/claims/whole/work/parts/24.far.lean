/-! the model: laysFar -/
/-- only the row of label l has changed -/
def fr (l : Nat) (σ τ : px_M) : Prop := (∀ m, m ≠ l → τ.1 m = σ.1 m) ∧ τ.2 = σ.2
theorem fr_rf (l : Nat) (σ : px_M) : fr l σ σ := ⟨fun _ _ => rfl, rfl⟩
theorem fr_up {l : Nat} {σ τ : px_M} (h : fr l σ τ) (i : Nat) (v : Int32) : fr l σ (px_up τ.1 l i v, τ.2) := ⟨fun m hm => by show px_up τ.1 l i v m = _; rw [px_up_row hm]; exact h.1 m hm, h.2⟩
theorem up_s {f : Nat → Nat → Int32} {l i j : Nat} {v : Int32} : px_up f l i v l j = if j = i then v else f l j := by simp [px_up]
/-- the numbers far, after m steps -/
def fw (r : Nat → Int32) (a m : Nat) (row : Nat → Int32) : Prop := ∀ h, h < 11 → row h = nI (fd (tB r) (tN r) a m h)
def S_laysFar : px_S := fun av σ k => match av with
  | [.inr (.inr (some 0)), .inl w] => mt_R σ.2.2 ∧ tok (σ.1 1) ∧ w = nI w.toNatClampNeg ∧ w.toNatClampNeg < 11 ∧ ∀ (M : Nat) (τ : px_M), fr 15 σ τ → fw (σ.1 1) w.toNatClampNeg M (τ.1 15) → ly (tB (σ.1 1)) (tN (σ.1 1)) w.toNatClampNeg (M + 1) = 0 → (∀ i, i < M → ¬ ly (tB (σ.1 1)) (tN (σ.1 1)) w.toNatClampNeg (i + 1) = 0) → k (some (.inl (nI M))) τ
  | _ => False
theorem S_laysFar_sp {av : List px_V} {σ : px_M} {k : Option px_V → px_M → Prop} (h : S_laysFar av σ k) : ∃ w, av = [.inr (.inr (some 0)), .inl w] ∧ (mt_R σ.2.2 ∧ tok (σ.1 1) ∧ w = nI w.toNatClampNeg ∧ w.toNatClampNeg < 11 ∧ ∀ (M : Nat) (τ : px_M), fr 15 σ τ → fw (σ.1 1) w.toNatClampNeg M (τ.1 15) → ly (tB (σ.1 1)) (tN (σ.1 1)) w.toNatClampNeg (M + 1) = 0 → (∀ i, i < M → ¬ ly (tB (σ.1 1)) (tN (σ.1 1)) w.toNatClampNeg (i + 1) = 0) → k (some (.inl (nI M))) τ) := by
  unfold S_laysFar at h
  split at h
  · exact ⟨_, rfl, h⟩
  · exact h.elim
def I_far1 (a : Nat) (σ : px_M) : Nat → px_Ls → px_M → Prop := fun j ls τ => ls = [some (.inr (.inr (some 0))), some (.inl (nI a)), some (.inl (nI j)), none, none, none, none] ∧ fr 15 σ τ ∧ ∀ h, h < j → τ.1 15 h = nI (fd (tB (σ.1 1)) (tN (σ.1 1)) a 0 h)
def I_far2 (a : Nat) (σ : px_M) : Nat → px_Ls → px_M → Prop := fun m ls τ => ∃ z5 z6, ls = [some (.inr (.inr (some 0))), some (.inl (nI a)), some (.inl (nI (ly (tB (σ.1 1)) (tN (σ.1 1)) a m))), some (.inl (nI (rc (tB (σ.1 1)) (tN (σ.1 1)) m (2 ^ a)))), some (.inl (nI m)), z5, z6] ∧ fr 15 σ τ ∧ fw (σ.1 1) a m (τ.1 15) ∧ m ≤ rc (tB (σ.1 1)) (tN (σ.1 1)) m (2 ^ a) ∧ (∀ i, i + 1 < m → ¬ ly (tB (σ.1 1)) (tN (σ.1 1)) a (i + 1) = 0)
def I_far3 (a m : Nat) (σ τ0 : px_M) : Nat → px_Ls → px_M → Prop := fun j ls τ => ls = [some (.inr (.inr (some 0))), some (.inl (nI a)), some (.inl (nI (ly (tB (σ.1 1)) (tN (σ.1 1)) a m))), some (.inl (nI (rc (tB (σ.1 1)) (tN (σ.1 1)) m (2 ^ a)))), some (.inl (nI m)), some (.inl (nI (ar (tB (σ.1 1)) j (ly (tB (σ.1 1)) (tN (σ.1 1)) a m)))), some (.inl (nI j))] ∧ τ = τ0
def I_far4 (a m : Nat) (σ : px_M) : Nat → px_Ls → px_M → Prop := fun j ls τ => ∃ z5, ls = [some (.inr (.inr (some 0))), some (.inl (nI a)), some (.inl (nI (ly (tB (σ.1 1)) (tN (σ.1 1)) a (m + 1)))), some (.inl (nI (rc (tB (σ.1 1)) (tN (σ.1 1)) (m + 1) (2 ^ a)))), some (.inl (nI (m + 1))), z5, some (.inl (nI j))] ∧ fr 15 σ τ ∧ (∀ h, h < j → τ.1 15 h = nI (fd (tB (σ.1 1)) (tN (σ.1 1)) a (m + 1) h)) ∧ (∀ h, j ≤ h → h < 11 → τ.1 15 h = nI (fd (tB (σ.1 1)) (tN (σ.1 1)) a m h))
set_option maxHeartbeats 4000000 in
set_option maxRecDepth 100000 in
theorem m_laysFar {tab : px_T} (ht : mt_ok tab) {h : Nat} (hh : 2 ≤ h) : px_Ok tab pn_i35 h S_laysFar := by
  refine px_mth ht.1 (by decide +kernel) (fun av σ k hS => by obtain ⟨w, rfl, hR, htk, hw, hw2, hS⟩ := S_laysFar_sp hS; exact Nat.le_of_ble_eq_true rfl) (fun C hT hC av σ k hS => ?_)
  replace hS := S_laysFar_sp hS
  obtain ⟨w, rfl, hR, htk, hw, hw2, hS⟩ := hS
  subst hT
  obtain ⟨a, ha0⟩ : ∃ a, w.toNatClampNeg = a := ⟨_, rfl⟩
  rw [ha0] at hw hw2 hS
  subst hw
  clear ha0
  obtain ⟨hn, h1, hnb, hlt⟩ := id htk
  have hltn : ∀ j, j < tN (σ.1 1) → tB (σ.1 1) j < 2048 := fun j hj => hlt j (by omega)
  have hpa := pw_lt hw2
  sorry
