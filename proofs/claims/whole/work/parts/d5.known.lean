/-! classes and rows, at the law's start -/
theorem lw_AC {args : Array Value} {s : State} {ty : FieldType} (h : (Cond.arrayClass ty).before args s = true) : ∃ cA, ArrOfT s cA ty ∧ s.vm.findClass ("[" ++ ty.toString) = some cA := by
  simp only [Cond.before, Cond.holds, Cond.value, beq_iff_eq] at h
  cases hc : s.vm.findClass ("[" ++ ty.toString) with
  | none => simp [hc] at h
  | some cA =>
    simp only [hc, Option.bind_some] at h
    cases hk : s.vm.classes[cA]? with
    | none => simp [hk] at h
    | some k =>
      simp only [hk, Option.map_some, Option.some.injEq] at h
      cases hkind : k.kind with
      | array comp ty' =>
        simp only [hkind, decide_eq_true_eq] at h
        subst h
        exact ⟨cA, fun n z => ⟨fun k h => (by cases h), k, hk, comp, hkind⟩, rfl⟩
      | _ => simp [hkind] at h
theorem lw_AO {args : Array Value} {s : State} {C : String} (h : (Cond.arrayOver (.object C)).before args s = true) : ∃ cA, ArrOfT s cA (.object C) ∧ va_RA s cA (.object C) := by
  obtain ⟨comp, cA, kA, h1, h2, h3, h4, h5⟩ := Cond.arrayOver_spec h
  exact ⟨cA, fun n z => ⟨fun k h => (by cases h), kA, h3, comp, h4⟩, kA, comp, h3, h4, h1, h5⟩
theorem lw_D {args : Array Value} {s : State} (hts : ∀ w ∈ px_ws, w.before args s = true) : ∃ D : va_G, ∀ (k : Nat) (q : vw_C), pn_cl[k]? = some q → u_Kn s q.1 q.2.1 q.2.2 (D.1 k) (D.2 k) := by
  have one : ∀ k, k < 13 → ∃ (c : ClassId) (iS : Nat → Nat), ∀ q : vw_C, pn_cl[k]? = some q → u_Kn s q.1 q.2.1 q.2.2 c iS := fun k hk => by
    obtain ⟨C0, N0, hcl, hin, -⟩ := pn_cf k hk
    have hi : ∃ n, (Cond.instantiable C0 n).before args s = true := by
      rcases (by omega : k = 0 ∨ k = 1 ∨ k = 2 ∨ k = 3 ∨ k = 4 ∨ k = 5 ∨ k = 6 ∨ k = 7 ∨ k = 8 ∨ k = 9 ∨ k = 10 ∨ k = 11 ∨ k = 12) with rfl | rfl | rfl | rfl | rfl | rfl | rfl | rfl | rfl | rfl | rfl | rfl | rfl
      · cases hcl; exact ⟨38, hts _ (px_gw (p := 6185) rfl rfl)⟩
      · cases hcl; exact ⟨6, hts _ (px_gw (p := 1031) rfl rfl)⟩
      · cases hcl; exact ⟨10, hts _ (px_gw (p := 2019) rfl rfl)⟩
      · cases hcl; exact ⟨2, hts _ (px_gw (p := 1165) rfl rfl)⟩
      · cases hcl; exact ⟨5, hts _ (px_gw (p := 1196) rfl rfl)⟩
      · cases hcl; exact ⟨2, hts _ (px_gw (p := 2003) rfl rfl)⟩
      · cases hcl; exact ⟨4, hts _ (px_gw (p := 1222) rfl rfl)⟩
      · cases hcl; exact ⟨2, hts _ (px_gw (p := 2062) rfl rfl)⟩
      · cases hcl; exact ⟨3, hts _ (px_gw (p := 1178) rfl rfl)⟩
      · cases hcl; exact ⟨10, hts _ (px_gw (p := 1120) rfl rfl)⟩
      · cases hcl; exact ⟨5, hts _ (px_gw (p := 1065) rfl rfl)⟩
      · cases hcl; exact ⟨2, hts _ (px_gw (p := 1037) rfl rfl)⟩
      · cases hcl; exact ⟨15, hts _ (px_gw (p := 1023) rfl rfl)⟩
    obtain ⟨n, hi⟩ := hi
    obtain ⟨c, iS, h⟩ := u_known hts hin hi
    refine ⟨c, iS, fun q hq => ?_⟩
    rw [hcl] at hq
    cases hq
    exact h
  obtain ⟨c0, i0, -⟩ := one 0 (by omega)
  have all : ∀ k, ∃ d : ClassId × (Nat → Nat), ∀ q : vw_C, pn_cl[k]? = some q → u_Kn s q.1 q.2.1 q.2.2 d.1 d.2 := fun k => by
    by_cases hk : k < 13
    · obtain ⟨c, iS, h⟩ := one k hk
      exact ⟨(c, iS), h⟩
    · refine ⟨(c0, i0), fun q hq => ?_⟩
      have := (List.getElem?_eq_some_iff.mp hq).1
      simp [pn_cl] at this
      omega
  obtain ⟨f, hf⟩ := Classical.axiomOfChoice all
  exact ⟨(fun k => (f k).1, fun k => (f k).2), hf⟩
theorem lw_K {args : Array Value} {s : State} (hts : ∀ w ∈ px_ws, w.before args s = true) (hao : (Cond.arrayOver (.object "NoThree$Annals")).before args s = true) : ∃ (D : va_G) (cy : Nat → ClassId), va_K D pn_cl (px_tys cy) s := by
  obtain ⟨D, hD⟩ := lw_D hts
  obtain ⟨c0, a0, b0⟩ := lw_AC (hts _ (px_gw (p := 1063) rfl rfl))
  obtain ⟨c1, a1, b1⟩ := lw_AC (hts _ (px_gw (p := 1163) rfl rfl))
  obtain ⟨c2, a2, b2⟩ := lw_AC (hts _ (px_gw (p := 1162) rfl rfl))
  obtain ⟨c3, a3, b3⟩ := lw_AC (hts _ (px_gw (p := 2125) rfl rfl))
  obtain ⟨c4, a4, b4⟩ := lw_AO hao
  refine ⟨D, fun k => if k = 0 then c0 else if k = 1 then c1 else if k = 2 then c2 else if k = 3 then c3 else c4, hD, fun k q hk => ?_⟩
  match k, hk with
  | 0, hk => cases hk; exact ⟨a0, b0⟩
  | 1, hk => cases hk; exact ⟨a1, b1⟩
  | 2, hk => cases hk; exact ⟨a2, b2⟩
  | 3, hk => cases hk; exact ⟨a3, b3⟩
  | 4, hk => cases hk; exact ⟨a4, b4⟩
  | k + 5, hk => cases hk
