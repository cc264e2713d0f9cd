/-! the law's start: both are made, and stand alike -/
theorem z0i_0 {l : Nat} (h1 : l ≠ 105) (h2 : l ≠ 35) (h3 : l ≠ 150) (h4 : l ≠ 0) (j : Nat) : z0.1 l j = nI 0 := by
  show z0i l j = _
  unfold z0i
  rw [if_neg h1, if_neg h2, if_neg h3, if_neg h4]
  rfl
theorem wf_00 : wf 0 (fun _ => 0) := ⟨by omega, fun _ => Nat.one_pos, fun _ _ => rfl, fun a b => by rw [Nat.zero_testBit, Nat.zero_testBit], fun a => Nat.zero_testBit a⟩
theorem z0_cR : cR z0.2.2 := by
  show ∀ q ∈ cR_l, z0r q.1 q.2.1 = some q.2.2
  decide +kernel
theorem z0_mR : mR z0.2.2 := by
  show ∀ q ∈ mR_l, z0r q.1 q.2.1 = some q.2.2
  decide +kernel
theorem z0u_m : ∀ r, r < 4 → z0u r = -1 := by decide +kernel
theorem z0_ST : ST z0 z0 := by
  have zi : ∀ l, l ≠ 105 → l ≠ 35 → l ≠ 150 → l ≠ 0 → ∀ j, z0.1 l j = nI 0 := fun l h1 h2 h3 h4 j => z0i_0 h1 h2 h3 h4 j
  refine ⟨⟨z0_cR, z0_mR⟩, ?_, ⟨?_, ?_⟩, ?_, ?_, ⟨?_, ?_⟩, ?_⟩
  · refine ⟨0, fun _ => 0, 0, fun _ => 0, fun _ => 0, 0, fun _ _ => 0, nI 0, ⟨?_, ?_, ?_, ?_, ?_, ?_⟩, ⟨wf_00, ?_, ?_, ?_, ?_, ?_⟩⟩
    · exact ⟨la_111, la_112, rc_111_1 z0_cR, wf_00, zi 111 (by omega) (by omega) (by omega) (by omega) _, fun h _ => zi 112 (by omega) (by omega) (by omega) (by omega) _⟩
    · exact ⟨⟨la_113, la_114, la_115, la_116⟩, ⟨rc_113_1 z0_cR, rc_113_2 z0_cR, rc_113_3 z0_cR⟩, zi 113 (by omega) (by omega) (by omega) (by omega) _, fun r _ => zi 114 (by omega) (by omega) (by omega) (by omega) _, fun r hr => absurd hr (Nat.not_lt_zero _), fun i hi => absurd hi (Nat.not_lt_zero _), zi 113 (by omega) (by omega) (by omega) (by omega) _⟩
    · exact ⟨by omega, rfl, fun r hr => absurd hr (Nat.not_lt_zero _), Nat.zero_le _, fun r hr => absurd hr (Nat.not_lt_zero _)⟩
    · exact ⟨by omega, zi 110 (by omega) (by omega) (by omega) (by omega) _, 0, by omega, zi 110 (by omega) (by omega) (by omega) (by omega) _, fun i hi => absurd hi (Nat.not_lt_zero _)⟩
    · exact fun i hi => absurd hi (Nat.not_lt_zero _)
    · exact zi 110 (by omega) (by omega) (by omega) (by omega) _
    · exact zi 1 (by omega) (by omega) (by omega) (by omega) _
    · exact fun h _ => zi 1 (by omega) (by omega) (by omega) (by omega) _
    · exact ⟨zi 1 (by omega) (by omega) (by omega) (by omega) _, fun r hr => absurd hr (Nat.not_lt_zero _), fun i hi => absurd hi (Nat.not_lt_zero _)⟩
    · exact ⟨by omega, zi 1 (by omega) (by omega) (by omega) (by omega) _, fun i hi => absurd hi (Nat.not_lt_zero _)⟩
    · exact zi 1 (by omega) (by omega) (by omega) (by omega) _
  · exact Or.inl ⟨zi 102 (by omega) (by omega) (by omega) (by omega) _, zi 2 (by omega) (by omega) (by omega) (by omega) _⟩
  · exact Or.inl ⟨zi 102 (by omega) (by omega) (by omega) (by omega) _, zi 2 (by omega) (by omega) (by omega) (by omega) _⟩
  · exact ⟨fun _ => none, fun _ _ => 0, fun r hr => Or.inl ⟨rfl, z0u_m r hr⟩, fun r hr => Or.inl ⟨rfl, z0u_m r hr⟩⟩
  · exact ⟨fun _ => 0, 0, by omega, rfl, rfl, fun i _ => (zi 151 (by omega) (by omega) (by omega) (by omega) _).trans (show nI 0 = sb 0 by decide), fun i _ => zi 3 (by omega) (by omega) (by omega) (by omega) _, fun _ => (show 0 < 256 by omega)⟩
  · rfl
  · rfl
  · exact ⟨⟨0, by omega, zi 140 (by omega) (by omega) (by omega) (by omega) _⟩, zi 144 (by omega) (by omega) (by omega) (by omega) _⟩
section
variable {C : kT} {own : String} {cc : ByteArray} {nL h cs ss N M pc : Nat} {la : Array Slot} {st : List Value} {ws : va_W}
theorem kx_ast (hC : kOK C own cc nL h cs ss) {k : Fin 4} {i x : Nat} {lv lv' : List (Nat × Value)} (hl : lv_has la nL lv) (hd : decode cc pc = .ok (.astore_n k, 1)) (hi : (k : Nat) = i) (hn : i < nL) (he : (i, Value.ref x) :: lv.filter (fun q => !(q.1 == i) && !(q.1 + 1 == i && q.2.category == 2)) = lv') (hW : ∀ la, lv_has la nL lv' → kW C N M (pc + 1) la st ws) : kW C N M pc la (.ref x :: st) ws := by
  obtain ⟨p, l, e, R, s, m, args, below, meth, c, D, cy, A, Q⟩ := C
  obtain ⟨⟨hx, hb, -⟩, -⟩ := hC
  intro H locs hP hD hS
  exact lv_astore_n hx hb hd hi hl hn he (fun la hl => hW la hl H locs hP hD hS)
end
theorem adz_tx (f g tx : Nat → Nat) : ∀ k, 1000 ≤ k → adz f g tx k = tx k := fun k hk => by
  unfold adz
  rw [if_neg (by omega), if_neg (by omega)]
theorem z_perm (cy : Nat → ClassId) (f g tx : Nat → Nat) : (([] ++ mkF_12 cy f) ++ mkF_0 cy g).Perm (px_w cy (adz f g tx) tT z0) := by
  rw [List.nil_append, mk12_z cy f g tx, mk0_z cy f g tx, ← List.map_append]
  exact List.Perm.map _ wlab_p
/-- both made -/
theorem kx_both {C : kT} {la : Array Slot} {b : Nat} (hC : kOK C "NoThreeLaw" code 4 1300 600000 7302250) (hl : lv_has la 4 [(0, .ref b)]) (hW : ∀ (f g : Nat → Nat) (la : Array Slot), lv_has la 4 [(3, .int (nI 0)), (2, .ref (g 0)), (1, .ref (f 0)), (0, .ref b)] → kW C 109 29510 18 la [] (([] ++ mkF_12 (kcy C) f) ++ mkF_0 (kcy C) g)) : kW C 0 0 0 la [] [] := by
  refine kx_new hC (idx := 7) (ci := 12) (by decide) rfl (px_gw (p := 1022) rfl rfl) (px_gw (p := 1023) rfl rfl) (px_gw (p := 1001) rfl rfl) (by decide +kernel) (Nat.le_of_ble_eq_true rfl) (Nat.le_of_ble_eq_true rfl) (by decide +kernel) (fun q1 => ?_)
  refine kx_dup hC (by decide +kernel) rfl ?_
  refine kx_call hC (idx := 9) kM_12 rfl rfl (px_gw (p := 1026) rfl rfl) (px_gw (p := 1001) rfl rfl) (px_gw (p := 1025) rfl rfl) (px_gw (p := 1024) rfl rfl) (by decide +kernel) rfl (by omega) (Nat.le_of_ble_eq_true rfl) (Nat.le_of_ble_eq_true rfl) hl.1 (Nat.le_of_ble_eq_true rfl) (by decide +kernel) (fun f hf => ?_)
  refine kx_ast hC (k := 1) (i := 1) (lv' := [(1, .ref q1), (0, .ref b)]) hl (by decide +kernel) rfl (by omega) rfl (fun la hl => ?_)
  refine kx_new hC (idx := 10) (ci := 0) (by decide) rfl (px_gw (p := 6190) rfl rfl) (px_gw (p := 6191) rfl rfl) (px_gw (p := 1013) rfl rfl) (by decide +kernel) (Nat.le_of_ble_eq_true rfl) (Nat.le_of_ble_eq_true rfl) (by decide +kernel) (fun q2 => ?_)
  refine kx_dup hC (by decide +kernel) rfl ?_
  refine kx_call hC (idx := 12) kM_0 rfl rfl (px_gw (p := 6194) rfl rfl) (px_gw (p := 1013) rfl rfl) (px_gw (p := 6193) rfl rfl) (px_gw (p := 6192) rfl rfl) (by decide +kernel) rfl (by omega) (Nat.le_of_ble_eq_true rfl) (Nat.le_of_ble_eq_true rfl) hl.1 (Nat.le_of_ble_eq_true rfl) (by decide +kernel) (fun g hg => ?_)
  refine kx_ast hC (k := 2) (i := 2) (lv' := [(2, .ref q2), (1, .ref q1), (0, .ref b)]) hl (by decide +kernel) rfl (by omega) rfl (fun la hl => ?_)
  refine kx_int hC (v := nI 0) (by decide +kernel) (Or.inl ⟨0, rfl, rfl, by decide⟩) ?_
  refine kx_ist hC (k := 3) (i := 3) (lv' := [(3, .int (nI 0)), (2, .ref q2), (1, .ref q1), (0, .ref b)]) hl (by decide +kernel) rfl (by omega) rfl (fun la hl => ?_)
  subst hf
  subst hg
  exact hW f g la hl
theorem whole_start (l : Launch) (_hflags : l.flags = flags0) {p : Program} {e : Env} {s : State} {m : MethodId} {below : List Frame} {meth : Method} {c : Code} {b L : Nat} {xs : Nat → Int32} (hL : L ≤ 3072) (h : lw_At p s m meth c b L xs) : W p l e room_1 s m #[Value.ref b] below meth c s.heap [] 0 0 (lw_Z below #[Value.ref b] s) (entryFrame m ([Value.ref b] : List Value).toArray 4) := by
  obtain ⟨hx, hb, hr, hml, hown, hts, hX, hbl, hlk, hgv⟩ := h
  have htp : ∀ w ∈ px_ws, w.before #[Value.ref b] s = true := fun w hw => hts w (List.mem_filter.mp hw).1
  obtain ⟨D, cy, hK⟩ := lw_K htp
  obtain ⟨tx, htx⟩ := lw_X hts hgv
  have hl := lv_entry ([.ref b]) (n := 4) (show (lg_sl ([.ref b] : List Value)).length ≤ 4 from Nat.le_of_ble_eq_true rfl)
  rw [lg_entry_eq]
  generalize (lg_sl ([.ref b]) ++ List.replicate (4 - (lg_sl ([.ref b])).length) Slot.unset).toArray = ls at hl ⊢
  have hl : lv_has ls 4 [(0, .ref b)] := hl
  have hC : kOK (p, l, e, room_1, s, m, #[Value.ref b], below, meth, c, D, cy, fun q => s.heap.size ≤ q, lw_Z below #[Value.ref b] s) "NoThreeLaw" code 4 1300 600000 7302250 := ⟨⟨hx, hb, hml, hown, htp, hK, fun q h => h⟩, Nat.le_of_ble_eq_true rfl, Nat.le_of_ble_eq_true rfl, Nat.le_of_ble_eq_true rfl, Nat.le_of_ble_eq_true rfl⟩
  have key := kx_both hC hl (fun f g la hl => kx_perm (z_perm cy f g tx) (fun H locs hP hD hS => law_loop (D := D) (cy := cy) (ad := adz f g tx) (N := 109) (M := 29510) hL hX hbl hr hlk ⟨⟨hx, hb, hml, hown, htp⟩, hK, fun σ => px_wD hD, htx _ (adz_tx f g tx)⟩ ⟨by omega, by omega⟩ (L + 1) 0 z0 (by omega) (by omega) z0_ST H locs la hP hS hl))
  exact key s.heap [] (fun k x h => by simp at h) ⟨fun i j x y h => by simp at h, fun k x h => by simp at h⟩ va_S.rf
