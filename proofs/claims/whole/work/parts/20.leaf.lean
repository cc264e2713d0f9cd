/-! the model's leaves -/
/-- the model's cells: label 0 the object, label s the array of its slot s -/
def mt_tab : px_T := [(0, .inl 0), (1, .inr (0, 3216)), (2, .inr (2, 2)), (3, .inr (0, 900)), (4, .inr (0, 1072)), (15, .inr (0, 11)), (16, .inr (0, 11)), (17, .inr (0, 900))]
def mt_ok (tab : px_T) : Prop := (tab.map Prod.fst).Nodup ∧ ∀ q ∈ mt_tab, px_lay tab q.1 = some q.2
def mb (b : Bool) : Int32 := if b then 1 else 0
theorem mb_01 (b : Bool) : mb b = 0 ∨ mb b = 1 := by cases b <;> simp [mb]
/-- within -/
def S_within : px_S := fun av σ k => match av with
  | [.inr (.inl v), .inr (.inl lo), .inr (.inl hi)] => k (some (.inl (mb (decide (lo ≤ v) && decide (v ≤ hi))))) σ
  | _ => False
theorem m_within {tab : px_T} (ht : mt_ok tab) (h : Nat) : px_Ok tab pn_i2 (h + 1) S_within := by
  refine px_meth ht.1 (by decide +kernel) (fun av σ k hS => ?_) (fun C hT hC av σ k hS => ?_)
  · unfold S_within at hS
    split at hS
    · simp [px_sl, pn_i2]
    · exact hS.elim
  · unfold S_within at hS
    split at hS
    · rename_i v lo hi
      refine px_run h ck_2 [] [] 10 hC px_nosp (Nat.le_refl _) (fun _ hq => absurd hq List.not_mem_nil) ?_
      simp only [px_go, bk_2, px_vc, px_ex, px_jp, px_gl, px_l2, px_i1, px_ini, px_sl, pn_i2, px_rok]
      sorry
    · exact hS.elim
