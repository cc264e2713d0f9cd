/-! makers: rows for the class's own -/
theorem kx_vD {A : Nat → Prop} {ws : va_W} : va_D A ws ↔ (ws.map Prod.fst).Nodup ∧ ∀ x ∈ ws, A x.1 := by
  constructor
  · rintro ⟨h1, h2⟩
    refine ⟨?_, fun x hx => ?_⟩
    · rw [List.nodup_iff_pairwise_ne, List.pairwise_map, List.pairwise_iff_getElem]
      intro i j hi hj hij he
      have := h1 i j ws[i] ws[j] (List.getElem?_eq_getElem hi) (List.getElem?_eq_getElem hj) he
      omega
    · obtain ⟨k, hk⟩ := List.getElem?_of_mem hx
      exact h2 k x hk
  · rintro ⟨h1, h2⟩
    refine ⟨fun i j x y hx hy hxy => ?_, fun k x hk => h2 x (List.mem_of_getElem? hk)⟩
    rw [List.nodup_iff_pairwise_ne, List.pairwise_map, List.pairwise_iff_getElem] at h1
    obtain ⟨hi, ei⟩ := List.getElem?_eq_some_iff.mp hx
    obtain ⟨hj, ej⟩ := List.getElem?_eq_some_iff.mp hy
    rcases Nat.lt_trichotomy i j with h | h | h
    · exact absurd (by rw [ei, ej]; exact hxy) (h1 i j hi hj h)
    · exact h
    · exact absurd (by rw [ei, ej]; exact hxy.symm) (h1 j i hj hi h)
theorem kx_vP {D : va_G} {ws ws' : va_W} {H : Heap} (hs : ∀ x ∈ ws', x ∈ ws) (h : va_P D pn_cl ws H) : va_P D pn_cl ws' H := fun k x hk => by
  obtain ⟨j, hj⟩ := List.getElem?_of_mem (hs x (List.mem_of_getElem? hk))
  exact h j x hj
theorem kx_vDp {A : Nat → Prop} {ws ws' : va_W} (hp : ws.Perm ws') (h : va_D A ws) : va_D A ws' := by
  rw [kx_vD] at h ⊢
  exact ⟨(hp.map Prod.fst).nodup_iff.mp h.1, fun x hx => h.2 x (hp.mem_iff.mpr hx)⟩
theorem kx_mv (x : Nat × va_E) (o r w : va_W) : ((x :: (o ++ r)) ++ w).Perm (x :: (o ++ (w ++ r))) := by
  refine List.Perm.cons x ?_
  show ((o ++ r) ++ w).Perm _
  rw [List.append_assoc]
  exact List.Perm.append_left o List.perm_append_comm
section
variable {C : kT} {own : String} {cc : ByteArray} {nL h cs ss N M pc : Nat} {la : Array Slot} {st : List Value} {ws : va_W}
theorem kx_perm {ws' : va_W} (hp : ws.Perm ws') (hW : kW C N M pc la st ws') : kW C N M pc la st ws := by
  obtain ⟨p, l, e, R, s, m, args, below, meth, c, D, cy, A, Q⟩ := C
  intro H locs hP hD hS
  exact hW H locs (kx_vP (fun x hx => hp.mem_iff.mpr hx) hP) (kx_vDp hp hD) hS
theorem kx_eq {ws' : va_W} (hp : ws' = ws) (hW : kW C N M pc la st ws') : kW C N M pc la st ws := by
  rw [← hp]; exact hW
theorem kx_ist (hC : kOK C own cc nL h cs ss) {k : Fin 4} {i : Nat} {x : Int32} {lv lv' : List (Nat × Value)} (hl : lv_has la nL lv) (hd : decode cc pc = .ok (.istore_n k, 1)) (hi : (k : Nat) = i) (hn : i < nL) (he : (i, Value.int x) :: lv.filter (fun q => !(q.1 == i) && !(q.1 + 1 == i && q.2.category == 2)) = lv') (hW : ∀ la, lv_has la nL lv' → kW C N M (pc + 1) la st ws) : kW C N M pc la (.int x :: st) ws := by
  obtain ⟨p, l, e, R, s, m, args, below, meth, c, D, cy, A, Q⟩ := C
  obtain ⟨⟨hx, hb, -⟩, -⟩ := hC
  intro H locs hP hD hS
  exact lv_istore_n hx hb hd hi hl hn he (fun la hl => hW la hl H locs hP hD hS)
theorem kx_ild (hC : kOK C own cc nL h cs ss) {kn : List (Nat × Value)} (hl : lv_has la nL kn) (j : Nat) {i : Nat} {x : Int32} {k : Fin 4} (hk : kn[j]? = some (i, .int x)) (hi : (k : Nat) = i) (hd : decode cc pc = .ok (.iload_n k, 1)) (hW : kW C N M (pc + 1) la (.int x :: st) ws) : kW C N M pc la st ws := by
  obtain ⟨p, l, e, R, s, m, args, below, meth, c, D, cy, A, Q⟩ := C
  obtain ⟨⟨hx, hb, -⟩, -⟩ := hC
  intro H locs hP hD hS
  exact lv_iload_n hx hb hd hi (lv_at hl j hk) (hW H locs hP hD hS)
theorem kx_gey (hC : kOK C own cc nL h cs ss) {x y : Int32} {off : Int} {tgt : Nat} (hxy : y ≤ x) (hd : decode cc pc = .ok (.if_icmp .ge off, 3)) (ht : (pc : Int) + off = (tgt : Int)) (hW : kW C N M tgt la st ws) : kW C N M pc la (.int y :: .int x :: st) ws := by
  obtain ⟨p, l, e, R, s, m, args, below, meth, c, D, cy, A, Q⟩ := C
  obtain ⟨⟨hx, hb, -⟩, -⟩ := hC
  intro H locs hP hD hS
  exact lv_icmp_ge hx hb hd ht (fun _ => hW H locs hP hD hS) (fun h => absurd hxy h)
theorem kx_gen (hC : kOK C own cc nL h cs ss) {x y : Int32} {off : Int} {tgt : Nat} (hxy : ¬ y ≤ x) (hd : decode cc pc = .ok (.if_icmp .ge off, 3)) (ht : (pc : Int) + off = (tgt : Int)) (hW : kW C N M (pc + 3) la st ws) : kW C N M pc la (.int y :: .int x :: st) ws := by
  obtain ⟨p, l, e, R, s, m, args, below, meth, c, D, cy, A, Q⟩ := C
  obtain ⟨⟨hx, hb, -⟩, -⟩ := hC
  intro H locs hP hD hS
  exact lv_icmp_ge hx hb hd ht (fun h => absurd h hxy) (fun _ => hW H locs hP hD hS)
theorem kx_inc (hC : kOK C own cc nL h cs ss) {i : Nat} {n : Int} {x v : Int32} {lv lv' : List (Nat × Value)} (hl : lv_has la nL lv) (k : Nat) (hk : lv[k]? = some (i, .int x)) (hv : x + Int32.ofInt n = v) (hn : i < nL) (he : (i, Value.int v) :: lv.filter (fun q => !(q.1 == i) && !(q.1 + 1 == i && q.2.category == 2)) = lv') (hd : decode cc pc = .ok (.iinc i n, 3)) (hW : ∀ la, lv_has la nL lv' → kW C N M (pc + 3) la st ws) : kW C N M pc la st ws := by
  obtain ⟨p, l, e, R, s, m, args, below, meth, c, D, cy, A, Q⟩ := C
  obtain ⟨⟨hx, hb, -⟩, -⟩ := hC
  intro H locs hP hD hS
  exact lv_iinc hx hb hd hl hk hv hn he (fun la hl => hW la hl H locs hP hD hS)
theorem kx_goto (hC : kOK C own cc nL h cs ss) {off : Int} {tgt : Nat} (hd : decode cc pc = .ok (.goto off, 3)) (ht : (pc : Int) + off = (tgt : Int)) (hW : kW C N M tgt la st ws) : kW C N M pc la st ws := by
  obtain ⟨p, l, e, R, s, m, args, below, meth, c, D, cy, A, Q⟩ := C
  obtain ⟨⟨hx, hb, -⟩, -⟩ := hC
  intro H locs hP hD hS
  exact lv_goto hx hb hd ht (hW H locs hP hD hS)
/-- a field that is a new object: five instructions -/
theorem kx_sub (hC : kOK C own cc nL h cs ss) (hin : kIn C) {a : Nat} (hl : lv_has la nL [(0, .ref a)]) {o rest : va_W} {ci b cj ic im ip h' cs' ss' : Nat} {fs : List Value} {j : pn_I} {r : vw_C} {F : (Nat → ClassId) → (Nat → Nat) → va_W} (hM : kM j cj h' cs' ss' F) (hci : ci < 13) (hcj : cj < 13) (hcl : pn_cl[cj]? = some r) (hret : j.2.2.2.2.1 = none) (hnm : j.2.1.name = "<init>") (h0 : j.2.2.2.2.2 = 0) (hmok : pn_mok j = true) (hfs : ∀ k, k < r.2.2 → defaultValue (pn_tf cj k) = vp_V (kz cj) k) (w1 : Cond.classLink own ic r.1 ∈ px_ws) (w2 : Cond.instantiable r.1 r.2.2 ∈ px_ws) (w3 : Cond.initialized r.1 ∈ px_ws) (w4 : Cond.code j.2.1 j.2.2.1 j.2.2.2.1 j.2.2.2.2.1 ∈ px_ws) (w5 : Cond.initialized j.2.1.cls ∈ px_ws) (w6 : Cond.instanceMethod j.2.1 ∈ px_ws) (w7 : Cond.methodLink own im j.2.1 ∈ px_ws) (w8 : Cond.fieldLink own ip (pn_Tf ci b).1 (pn_Tf ci b).2.1 (pn_Tf ci b).2.2.1 ∈ px_ws) (hdecl : (pn_Tf ci b).1 = own) (hbN : b < (pn_fk ci).length) (hnr : ∀ q, narrow (pn_tf ci b) (.ref q) = .ref q) (hft : ∀ q, fits (pn_tf ci b) (.ref q) = true) (hbl : b < fs.length) (hh : h' + 1 ≤ h) (hN1 : N + 1 ≤ cs) (hM1 : M + r.2.2 ≤ ss) (hN2 : N + 1 + cs' ≤ cs) (hM2 : M + r.2.2 + ss' ≤ ss) (d0 : decode cc pc = .ok (.aload_n 0, 1)) (d1 : decode cc (pc + 1) = .ok (.new ic, 3)) (d2 : decode cc (pc + 1 + 3) = .ok (.dup, 1)) (d3 : decode cc (pc + 1 + 3 + 1) = .ok (.invokespecial im, 3)) (d4 : decode cc (pc + 1 + 3 + 1 + 3) = .ok (.putfield ip, 3)) (hW : ∀ f, kW C (N + 1 + cs') (M + r.2.2 + ss') (pc + 1 + 3 + 1 + 3 + 3) la [] ((a, .inr (ci, fs.set b (.ref (f 0)))) :: (o ++ (F (kcy C) f ++ rest)))) : kW C N M pc la [] ((a, .inr (ci, fs)) :: (o ++ rest)) := by
  refine kx_al hC hl 0 (k := 0) rfl rfl d0 ?_
  refine kx_new hC (ci := cj) hcj hcl w1 w2 w3 hfs hN1 hM1 d1 (fun q => ?_)
  refine kx_dup hC d2 rfl ?_
  refine kx_call hC hM hret hnm w4 w5 w6 w7 hmok h0 hh hN2 hM2 hl.1 (Nat.le_of_ble_eq_true rfl) d3 (fun f e => ?_)
  subst e
  refine kx_perm (kx_mv _ o rest _) ?_
  exact kx_put hC hin (ci := ci) (b := b) (q0 := 0) w8 hci hdecl hbN (hnr _) (hft _) rfl hbl d4 (hW f)
end
