/-! makers: more rows -/
section
variable {C : kT} {own : String} {cc : ByteArray} {nL h cs ss N M pc : Nat} {la : Array Slot} {st : List Value} {ws : va_W}
theorem kx_get (hC : kOK C own cc nL h cs ss) {idx ci b q0 a : Nat} {fs : List Value} {v : Value} (hlk : Cond.fieldLink own idx (pn_Tf ci b).1 (pn_Tf ci b).2.1 (pn_Tf ci b).2.2.1 ∈ px_ws) (hci : ci < 13) (hbN : b < (pn_fk ci).length) (he : ws[q0]? = some (a, .inr (ci, fs))) (hv : fs[b]? = some v) (hd : decode cc pc = .ok (.getfield idx, 3)) (hW : kW C N M (pc + 3) la (v :: st) ws) : kW C N M pc la (.ref a :: st) ws := by
  obtain ⟨p, l, e, R, s, m, args, below, meth, c, D, cy, A, Q⟩ := C
  obtain ⟨⟨hx, hb, hml, hown, hts, hK, hA⟩, -⟩ := hC
  intro H locs hP hD hS
  obtain ⟨C0, N0, hcl, hin0, hty, hnm, hfk, -⟩ := pn_cf ci hci
  have hb2 : b < N0 := by rw [hfk] at hbN; simpa using hbN
  exact va_get (D := D) (v := v) hx hb hts hin0 hown hK hP q0 he hcl b hb2 (hts _ hlk) (fun _ h => h) hv hd (hW H locs hP hD hS)
theorem kx_ldc2 (hC : kOK C own cc nL h cs ss) {idx : Nat} {v : Int64} (hw : Cond.constantLong own idx v ∈ px_ws) (hd : decode cc pc = .ok (.ldc2_w idx, 3)) (hW : kW C N M (pc + 3) la (.long v :: st) ws) : kW C N M pc la st ws := by
  obtain ⟨p, l, e, R, s, m, args, below, meth, c, D, cy, A, Q⟩ := C
  obtain ⟨⟨hx, hb, hml, hown, hts, hK, hA⟩, -⟩ := hC
  intro H locs hP hD hS
  exact lv_ldc2 hx hb hown (hts _ hw) hd (hW H locs hP hD hS)
theorem kx_iast (hC : kOK C own cc nL h cs ss) (q0 : Nat) {a n : Nat} {f : Nat → Int32} {i x : Int32} (he : ws[q0]? = some (a, .inl (kcy C 0, (n, .inl f)))) (hin : vp_in i n) (hd : decode cc pc = .ok (.iastore, 1)) (hW : kW C N M (pc + 1) la st (ws.set q0 (a, .inl (kcy C 0, (n, .inl (upd f i.toNatClampNeg x)))))) : kW C N M pc la (.int x :: .int i :: .ref a :: st) ws := by
  obtain ⟨p, l, e, R, s, m, args, below, meth, c, D, cy, A, Q⟩ := C
  obtain ⟨⟨hx, hb, hml, hown, hts, hK, hA⟩, -⟩ := hC
  intro H locs hP hD hS
  exact va_iast (D := D) hx hb hK hP hD hS q0 0 he rfl hin hd (fun H1 locs1 hP1 hD1 hS1 => hW H1 locs1 hP1 hD1 hS1)
end
