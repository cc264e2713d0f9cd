/-! how far: the numbers -/
/-- the farthest that is reached -/
def ec (n : Nat) (B : Nat → Nat) (a : Nat) : Nat := fa_first (fun m => decide (ly B n a (m + 1) = 0)) 11
section
variable {n : Nat} {B : Nat → Nat}
theorem ec_spec (hw : wf n B) {a : Nat} (ha : a < n) : ec n B a ≤ 10 ∧ ly B n a (ec n B a + 1) = 0 ∧ ∀ i, i < ec n B a → ¬ ly B n a (i + 1) = 0 := by
  have hltn : ∀ j, j < n → B j < 2048 := fun j _ => wf_2048 hw j
  have ha11 : a < 11 := Nat.lt_of_lt_of_le ha hw.1
  have h2 : ∀ i, i < ec n B a → ¬ ly B n a (i + 1) = 0 := fun i hi q => by
    have := fa_first_no (fun m => decide (ly B n a (m + 1) = 0)) 11 i hi
    simp [q] at this
  have h1 := ly_10 ha11 hltn h2
  refine ⟨h1, ?_, h2⟩
  have := fa_first_yes (fun m => decide (ly B n a (m + 1) = 0)) 11 (by show ec n B a < 11; omega)
  exact of_decide_eq_true this
theorem ec_uniq (hw : wf n B) {a M : Nat} (ha : a < n) (h0 : ly B n a (M + 1) = 0) (h1 : ∀ i, i < M → ¬ ly B n a (i + 1) = 0) : M = ec n B a := by
  obtain ⟨e1, e2, e3⟩ := ec_spec hw ha
  rcases Nat.lt_or_ge M (ec n B a) with q | q
  · exact absurd h0 (e3 M q)
  · rcases Nat.lt_or_ge (ec n B a) M with q' | q'
    · exact absurd e2 (h1 _ q')
    · omega
theorem fd_stayM (hw : wf n B) {a M : Nat} (ha : a < n) (h0 : ly B n a (M + 1) = 0) (x : Nat) : ∀ i, fd B n a (M + i) x = fd B n a M x := by
  have hltn : ∀ j, j < n → B j < 2048 := fun j _ => wf_2048 hw j
  have ha11 : a < 11 := Nat.lt_of_lt_of_le ha hw.1
  intro i
  induction i with
  | zero => rw [Nat.add_zero]
  | succ i ih =>
    have h1 : ly B n a (M + i + 1) = 0 := by
      have := ly_stay ha11 hltn h0 i
      rw [show M + 1 + i = M + i + 1 by omega] at this
      exact this
    rw [show M + (i + 1) = (M + i) + 1 by omega]
    simp only [fd, h1, Nat.zero_testBit]
    exact ih
theorem fd_stay (hw : wf n B) {a : Nat} (ha : a < n) (x : Nat) (i : Nat) : fd B n a (ec n B a + i) x = fd B n a (ec n B a) x := fd_stayM hw ha (ec_spec hw ha).2.1 x i
/-- how far, or 99 -/
def ds (n : Nat) (B : Nat → Nat) (a x : Nat) : Nat := fd B n a 11 x
theorem fd_ec (hw : wf n B) {a : Nat} (ha : a < n) (x : Nat) : fd B n a (ec n B a) x = ds n B a x := by
  have h1 := (ec_spec hw ha).1
  have := fd_stay hw ha x (11 - ec n B a)
  rw [show ec n B a + (11 - ec n B a) = 11 by omega] at this
  exact this.symm
theorem ds_le (a x : Nat) : ds n B a x ≤ 99 := fd_le x (by omega)
theorem ds_99 (hw : wf n B) {a : Nat} (ha : a < n) (x : Nat) : ds n B a x < 99 ↔ (rc B n 11 (2 ^ a)).testBit x = true := fd_99 (Nat.lt_of_lt_of_le ha hw.1) (fun j _ => wf_2048 hw j) (by omega)
theorem ds_eq (hw : wf n B) {a : Nat} (ha : a < n) (x : Nat) {i : Nat} (hi : i < 99) : ds n B a x = i ↔ (ly B n a i).testBit x = true := by
  have ha11 := Nat.lt_of_lt_of_le ha hw.1
  have hltn : ∀ j, j < n → B j < 2048 := fun j _ => wf_2048 hw j
  rw [show ds n B a x = fd B n a 11 x from rfl, fd_eq ha11 hltn hi (by omega)]
  refine ⟨fun q => q.2, fun q => ⟨?_, q⟩⟩
  obtain ⟨e1, e2, -⟩ := ec_spec hw ha
  rcases Nat.lt_or_ge 11 i with q2 | q2
  · have := ly_stay ha11 hltn e2 (i - (ec n B a + 1))
    rw [show ec n B a + 1 + (i - (ec n B a + 1)) = i by omega] at this
    rw [this] at q
    simp at q
  · omega
end
