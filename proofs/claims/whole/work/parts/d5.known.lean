/-! classes and rows, at the law's start -/
theorem lw_AC {args : Array Value} {s : State} {ty : FieldType} (h : (Cond.arrayClass ty).before args s = true) : ∃ cA, ArrOfT s cA ty ∧ s.vm.findClass ("[" ++ ty.toString) = some cA := by
  simp only [Cond.before, Cond.holds, Cond.value, beq_iff_eq] at h
  cases hc : s.vm.findClass ("[" ++ ty.toString) with
  | none => simp [hc] at h
  | some cA =>
    simp only [hc, Option.bind_some] at h
    cases hk : s.vm.classes[cA]? with
    | none => simp [hk] at h
    | some k =>
      simp only [hk, Option.map_some, Option.some.injEq] at h
      cases hkind : k.kind with
      | array comp ty' =>
        simp only [hkind, decide_eq_true_eq] at h
        subst h
        exact ⟨cA, fun n z => ⟨fun k h => (by cases h), k, hk, comp, hkind⟩, rfl⟩
      | _ => simp [hkind] at h
theorem lw_D {args : Array Value} {s : State} (hts : ∀ w ∈ px_ws, w.before args s = true) : ∃ D : va_G, ∀ (k : Nat) (q : vw_C), pn_cl[k]? = some q → u_Kn s q.1 q.2.1 q.2.2 (D.1 k) (D.2 k) := by
  have one : ∀ k, k < 13 → ∃ (c : ClassId) (iS : Nat → Nat), ∀ q : vw_C, pn_cl[k]? = some q → u_Kn s q.1 q.2.1 q.2.2 c iS := fun k hk => by
    obtain ⟨C0, N0, hcl, hin, -⟩ := pn_cf k hk
    have hi : ∃ n, (Cond.instantiable C0 n).before args s = true := by
      rcases (by omega : k = 0 ∨ k = 1 ∨ k = 2 ∨ k = 3 ∨ k = 4 ∨ k = 5 ∨ k = 6 ∨ k = 7 ∨ k = 8 ∨ k = 9 ∨ k = 10 ∨ k = 11 ∨ k = 12) with rfl | rfl | rfl | rfl | rfl | rfl | rfl | rfl | rfl | rfl | rfl | rfl | rfl
      · cases hcl; exact ⟨38, hts _ (px_gw (p := 6191) rfl rfl)⟩
      · cases hcl; exact ⟨6, hts _ (px_gw (p := 1031) rfl rfl)⟩
      · cases hcl; exact ⟨10, hts _ (px_gw (p := 2018) rfl rfl)⟩
      · cases hcl; exact ⟨2, hts _ (px_gw (p := 1164) rfl rfl)⟩
      · cases hcl; exact ⟨5, hts _ (px_gw (p := 1195) rfl rfl)⟩
      · cases hcl; exact ⟨2, hts _ (px_gw (p := 2002) rfl rfl)⟩
      · cases hcl; exact ⟨4, hts _ (px_gw (p := 1221) rfl rfl)⟩
      · cases hcl; exact ⟨2, hts _ (px_gw (p := 2061) rfl rfl)⟩
      · cases hcl; exact ⟨3, hts _ (px_gw (p := 1177) rfl rfl)⟩
      · cases hcl; exact ⟨10, hts _ (px_gw (p := 1119) rfl rfl)⟩
      · cases hcl; exact ⟨5, hts _ (px_gw (p := 1065) rfl rfl)⟩
      · cases hcl; exact ⟨2, hts _ (px_gw (p := 1037) rfl rfl)⟩
      · cases hcl; exact ⟨16, hts _ (px_gw (p := 1023) rfl rfl)⟩
    obtain ⟨n, hi⟩ := hi
    obtain ⟨c, iS, h⟩ := u_known hts hin hi
    refine ⟨c, iS, fun q hq => ?_⟩
    rw [hcl] at hq
    cases hq
    exact h
  obtain ⟨c0, i0, -⟩ := one 0 (by omega)
  have all : ∀ k, ∃ d : ClassId × (Nat → Nat), ∀ q : vw_C, pn_cl[k]? = some q → u_Kn s q.1 q.2.1 q.2.2 d.1 d.2 := fun k => by
    by_cases hk : k < 13
    · obtain ⟨c, iS, h⟩ := one k hk
      exact ⟨(c, iS), h⟩
    · refine ⟨(c0, i0), fun q hq => ?_⟩
      have := (List.getElem?_eq_some_iff.mp hq).1
      simp [pn_cl] at this
      omega
  obtain ⟨f, hf⟩ := Classical.axiomOfChoice all
  exact ⟨(fun k => (f k).1, fun k => (f k).2), hf⟩
theorem lw_K {args : Array Value} {s : State} (hts : ∀ w ∈ px_ws, w.before args s = true) : ∃ (D : va_G) (cy : Nat → ClassId), va_K D pn_cl (px_tys cy) s := by
  obtain ⟨D, hD⟩ := lw_D hts
  obtain ⟨c0, a0, b0⟩ := lw_AC (hts _ (px_gw (p := 1063) rfl rfl))
  obtain ⟨c1, a1, b1⟩ := lw_AC (hts _ (px_gw (p := 1162) rfl rfl))
  obtain ⟨c2, a2, b2⟩ := lw_AC (hts _ (px_gw (p := 1161) rfl rfl))
  obtain ⟨c3, a3, b3⟩ := lw_AC (hts _ (px_gw (p := 2127) rfl rfl))
  refine ⟨D, fun k => if k = 0 then c0 else if k = 1 then c1 else if k = 2 then c2 else c3, hD, fun k q hk => ?_⟩
  match k, hk with
  | 0, hk => cases hk; exact ⟨a0, b0⟩
  | 1, hk => cases hk; exact ⟨a1, b1⟩
  | 2, hk => cases hk; exact ⟨a2, b2⟩
  | 3, hk => cases hk; exact ⟨a3, b3⟩
  | k + 4, hk => cases hk
