/-! switches and divisions of longs -/
theorem px_sw_spec {x : Int32} {dt : Nat} {J : Nat → Prop} : ∀ (l : List (Int32 × Nat)), px_sw x dt J l → (J dt ∧ ∀ z ∈ l, ¬ x = z.1) ∨ ∃ (i : Nat) (z : Int32 × Nat), l[i]? = some z ∧ x = z.1 ∧ J z.2 := by
  intro l
  induction l with
  | nil => intro h; exact Or.inl ⟨h, fun z hz => absurd hz List.not_mem_nil⟩
  | cons q l ih =>
    intro h
    obtain ⟨c, t⟩ := q
    by_cases hx : x = c
    · exact Or.inr ⟨0, (c, t), rfl, hx, h.1 hx⟩
    · rcases ih (h.2 hx) with ⟨h1, h2⟩ | ⟨i, z, h1, h2, h3⟩
      · refine Or.inl ⟨h1, fun z hz => ?_⟩
        rcases List.mem_cons.mp hz with rfl | hz
        · exact hx
        · exact h2 z hz
      · exact Or.inr ⟨i + 1, z, by simpa using h1, h2, h3⟩
def px_tck (pc : Nat) (d lo hi : Int) (offs : Array Int) (sw : List (Int32 × Nat) × Nat) : Bool := decide ((pc : Int) + d = (sw.2 : Int)) && decide (hi = lo + offs.size - 1) && decide (sw.1.map (fun z => z.1.toInt) = (List.range offs.size).map (fun (i : Nat) => lo + (i : Int))) && decide (sw.1.map (fun z => (z.2 : Int)) = offs.toList.map (fun o => (pc : Int) + o))
def px_kck (pc : Nat) (d : Int) (ps : Array (Int × Int)) (sw : List (Int32 × Nat) × Nat) : Bool := decide ((pc : Int) + d = (sw.2 : Int)) && (ps.toList.zip (ps.toList.drop 1)).all (fun (a, next) => a.1 < next.1) && decide (sw.1.map (fun z => (z.1.toInt, (z.2 : Int))) = ps.toList.map (fun q => (q.1, (pc : Int) + q.2)))
section
variable {C : px_C} {i : pn_I} {h : Nat} {k : Option px_V → px_M → Prop} {pc : Nat} {ls : px_Ls} {st : List px_V} {σ : px_M}
theorem px_r_table (hC : px_ok C i h) {x : Int32} {d lo hi : Int} {offs : Array Int} {len : Nat} {sw : List (Int32 × Nat) × Nat} (hd : decode i.2.2.1 pc = .ok (.tableswitch d lo hi offs, len)) (hck : px_tck pc d lo hi offs sw = true) (hv : px_sw x sw.2 (fun t => px_W C k t ls st σ) sw.1) : px_W C k pc ls (.inl x :: st) σ := by
  obtain ⟨p, l, e, R, s, m, args, below, meth, c, D, cy, ad, tab, A⟩ := C
  obtain ⟨hx, hb, -⟩ := hC
  simp only [px_tck, Bool.and_eq_true, decide_eq_true_eq] at hck
  obtain ⟨⟨⟨c1, c2⟩, c3⟩, c4⟩ := hck
  have hn : sw.1.length = offs.size := by have := congrArg List.length c3; simpa using this
  intro H locs la hl hP hS
  rcases px_sw_spec sw.1 hv with ⟨h1, h2⟩ | ⟨j, z, h1, h2, h3⟩
  · refine lv_tableOut hx hb hd ?_ c1 (h1 H locs la hl hP hS)
    by_cases q1 : x.toInt < lo
    · exact Or.inl q1
    · by_cases q2 : hi < x.toInt
      · exact Or.inr q2
      · exfalso
        obtain ⟨j, hj⟩ : ∃ j : Nat, (j : Int) = x.toInt - lo := ⟨(x.toInt - lo).toNat, by omega⟩
        have hj2 : j < sw.1.length := by omega
        have e1 : (sw.1.map (fun z => z.1.toInt))[j]? = some (lo + (j : Int)) := by
          rw [c3, List.getElem?_map, List.getElem?_range (by omega)]; rfl
        rw [List.getElem?_map, List.getElem?_eq_getElem hj2] at e1
        have e2 : (sw.1[j]).1.toInt = lo + (j : Int) := by simpa using e1
        exact h2 _ (List.getElem_mem hj2) (Int32.toInt_inj.mp (by omega))
  · have hj : j < sw.1.length := (List.getElem?_eq_some_iff.mp h1).1
    have e1 : (sw.1.map (fun z => z.1.toInt))[j]? = some (lo + (j : Int)) := by
      rw [c3, List.getElem?_map, List.getElem?_range (by omega)]; rfl
    rw [List.getElem?_map, h1] at e1
    have e2 : z.1.toInt = lo + (j : Int) := by simpa using e1
    have e3 : (offs.toList.map (fun o => (pc : Int) + o))[j]? = some (z.2 : Int) := by
      rw [← c4, List.getElem?_map, h1]; rfl
    rw [List.getElem?_map] at e3
    obtain ⟨o, ho, ho2⟩ := Option.map_eq_some_iff.mp e3
    subst h2
    refine lv_tableIn (off := o) (tgt := z.2) hx hb hd (by omega) (by omega) ?_ ho2 (h3 H locs la hl hP hS)
    rw [show (z.1.toInt - lo).toNat = j by omega]
    rw [← Array.getElem?_toList]; exact ho
theorem px_lk {x : Int32} {dt : Nat} {J : Nat → Prop} {d : Int} (hdt : (pc : Int) + d = (dt : Int)) : ∀ (l : List (Int32 × Nat)) (ps : List (Int × Int)), l.map (fun z => (z.1.toInt, (z.2 : Int))) = ps.map (fun q => (q.1, (pc : Int) + q.2)) → px_sw x dt J l → ∃ (off : Int) (t : Nat), Op.lookupswitch.offset ps d x.toInt = off ∧ (pc : Int) + off = (t : Int) ∧ J t := by
  intro l
  induction l with
  | nil =>
    intro ps hp hv
    cases ps with
    | nil => exact ⟨d, dt, rfl, hdt, hv⟩
    | cons q ps => simp at hp
  | cons z l ih =>
    intro ps hp hv
    cases ps with
    | nil => simp at hp
    | cons q ps =>
      obtain ⟨c, t⟩ := z
      obtain ⟨a, o⟩ := q
      simp only [List.map_cons, List.cons.injEq, Prod.mk.injEq] at hp
      obtain ⟨⟨h1, h2⟩, h3⟩ := hp
      rw [Op.lookupswitch.offset_cons]
      by_cases hx : x = c
      · subst hx
        exact ⟨o, t, by rw [if_pos h1.symm], h2.symm, hv.1 rfl⟩
      · obtain ⟨off, t', e1, e2, e3⟩ := ih ps h3 (hv.2 hx)
        exact ⟨off, t', by rw [if_neg (fun e => hx (Int32.toInt_inj.mp (by rw [← e, h1])))]; exact e1, e2, e3⟩
theorem px_r_lookup (hC : px_ok C i h) {x : Int32} {d : Int} {ps : Array (Int × Int)} {len : Nat} {sw : List (Int32 × Nat) × Nat} (hd : decode i.2.2.1 pc = .ok (.lookupswitch d ps, len)) (hck : px_kck pc d ps sw = true) (hv : px_sw x sw.2 (fun t => px_W C k t ls st σ) sw.1) : px_W C k pc ls (.inl x :: st) σ := by
  obtain ⟨p, l, e, R, s, m, args, below, meth, c, D, cy, ad, tab, A⟩ := C
  obtain ⟨hx, hb, -⟩ := hC
  simp only [px_kck, Bool.and_eq_true, decide_eq_true_eq] at hck
  obtain ⟨⟨c1, c2⟩, c3⟩ := hck
  obtain ⟨off, t, e1, e2, e3⟩ := px_lk c1 _ _ c3 hv
  intro H locs la hl hP hS
  exact lv_lookup hx hb hd c2 e1 e2 (e3 H locs la hl hP hS)
theorem px_r_ldiv (hC : px_ok C i h) {x y : Int64} (hne : ¬ y = 0) (hd : decode i.2.2.1 pc = .ok (.ldiv, 1)) (hW : px_W C k (pc + 1) ls (.inr (.inl (x / y)) :: st) σ) : px_W C k pc ls (.inr (.inl y) :: .inr (.inl x) :: st) σ := by
  obtain ⟨p, l, e, R, s, m, args, below, meth, c, D, cy, ad, tab, A⟩ := C
  obtain ⟨hx, hb, -⟩ := hC
  intro H locs la hl hP hS
  exact lv_ldiv hx hb hd hne (hW H locs la hl hP hS)
theorem px_r_lrem (hC : px_ok C i h) {x y : Int64} (hne : ¬ y = 0) (hd : decode i.2.2.1 pc = .ok (.lrem, 1)) (hW : px_W C k (pc + 1) ls (.inr (.inl (x - x / y * y)) :: st) σ) : px_W C k pc ls (.inr (.inl y) :: .inr (.inl x) :: st) σ := by
  obtain ⟨p, l, e, R, s, m, args, below, meth, c, D, cy, ad, tab, A⟩ := C
  obtain ⟨hx, hb, -⟩ := hC
  intro H locs la hl hP hS
  exact lv_lrem hx hb hd hne (hW H locs la hl hP hS)
end
theorem px_sw_mono {x : Int32} {dt : Nat} {J J' : Nat → Prop} (h : ∀ t, J t → J' t) : ∀ (l : List (Int32 × Nat)), px_sw x dt J l → px_sw x dt J' l := by
  intro l
  induction l with
  | nil => exact h dt
  | cons q l ih => intro hz; exact ⟨fun e => h _ (hz.1 e), fun e => ih (hz.2 e)⟩
