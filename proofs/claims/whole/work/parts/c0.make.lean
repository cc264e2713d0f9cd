/-! makers: cells that come -/
abbrev kT : Type := Program × Launch × Env × Room × State × MethodId × Array Value × List Frame × Method × Code × va_G × (Nat → ClassId) × (Nat → Prop) × (State → Prop)
def kW (C : kT) (N M pc : Nat) (la : Array Slot) (st : List Value) (ws : va_W) : Prop := match C with
  | (p, l, e, R, s, m, args, below, meth, c, D, _, A, Q) => ∀ (H : Heap) (locs : List Loc), va_P D pn_cl ws H → va_D A ws → va_S A s.heap H locs → W p l e R s m args below meth c H locs N M Q (F0 m pc la st)
def kOK (C : kT) (own : String) (cc : ByteArray) (nL h cs ss : Nat) : Prop := match C with
  | (p, _, _, R, s, m, args, _, _, c, D, cy, A, _) => (p.tables.exec = Jvm.exec ∧ c.code = cc ∧ c.maxLocals = nL ∧ s.vm.findClass own = some m.cls ∧ (∀ w ∈ px_ws, w.before args s = true) ∧ va_K D pn_cl (px_tys cy) s ∧ (∀ q, s.heap.size ≤ q → A q)) ∧ h ≤ R.frames ∧ 64 * h ≤ R.locals ∧ cs ≤ R.cells ∧ ss ≤ R.slots
def kIn (C : kT) : Prop := match C with
  | (_, _, _, _, _, _, _, _, meth, _, _, _, _, _) => meth.name = "<init>"
def kcy (C : kT) : Nat → ClassId := match C with
  | (_, _, _, _, _, _, _, _, _, _, _, cy, _, _) => cy
/-- what a new object's fields are -/
def kz (ci : Nat) : List Value := (pn_fk ci).map (fun d => if d = 1 then .long 0 else if d = 2 then .null else .int 0)
def kza (t n : Nat) : vp_A := (n, if t = 3 then .inr (.inl (fun _ => 0)) else .inl (fun _ => 0))
/-- a maker's contract -/
def kM (j : pn_I) (ci h cs ss : Nat) (F : (Nat → ClassId) → (Nat → Nat) → va_W) : Prop := ∀ (l : Launch) (D : va_G) (cy : Nat → ClassId) (a sz : Nat), Met l j.2.1 (.code j.2.1 j.2.2.1 j.2.2.2.1 j.2.2.2.2.1 :: px_ws) { frames := h, cells := cs, slots := ss, locals := 64 * h } (va_Pc [.ref a] (fun U => U.heap.size = sz ∧ va_P D pn_cl [(a, .inr (ci, kz ci))] U.heap ∧ va_K D pn_cl (px_tys cy) U)) (va_Qv (fun f : Nat → Nat => f 0 = a) (fun f t => va_P D pn_cl (F cy f) t.heap ∧ va_D (va_A [(a, .inr (ci, kz ci))] sz) (F cy f)) (va_A [(a, .inr (ci, kz ci))] sz)) cs ss (va_A [(a, .inr (ci, kz ci))] sz)
theorem kx_join {D : va_G} {A0 : Nat → Prop} {wr wc w1 : va_W} {H H1 : Heap} (hP : va_P D pn_cl (wr ++ wc) H) (hD : va_D A0 (wr ++ wc)) (hk : ∀ q : Nat, q < H.size → ¬ va_A wc H.size q → H1[q]? = H[q]?) (hF : ∀ q, va_A wc H.size q → A0 q) (hP1 : va_P D pn_cl w1 H1) (hD1 : va_D (va_A wc H.size) w1) : va_P D pn_cl (wr ++ w1) H1 ∧ va_D A0 (wr ++ w1) := by
  have inr : ∀ (k : Nat) (x : Nat × va_E), wr[k]? = some x → (wr ++ wc)[k]? = some x := fun k x h => by
    rw [List.getElem?_append_left ((List.getElem?_eq_some_iff.mp h).1)]; exact h
  have lt : ∀ (k : Nat) (x : Nat × va_E), wr[k]? = some x → x.1 < H.size := fun k x h => (hP k x (inr k x h)).lt
  have na : ∀ (k : Nat) (x : Nat × va_E), wr[k]? = some x → ¬ va_A wc H.size x.1 := fun k x h hA => by
    rcases hA with ⟨i, e, he⟩ | hA
    · have h2 : (wr ++ wc)[wr.length + i]? = some (x.1, e) := by
        rw [List.getElem?_append_right (by omega), Nat.add_sub_cancel_left]; exact he
      have := hD.1 k (wr.length + i) x (x.1, e) (inr k x h) h2 rfl
      have := (List.getElem?_eq_some_iff.mp h).1
      omega
    · have := lt k x h
      omega
  have hPr : va_P D pn_cl wr H := fun k x h => hP k x (inr k x h)
  refine ⟨(hPr.kept (fun k x h => hk x.1 (lt k x h) (na k x h))).app hP1, fun i j x y hx hy hxy => ?_, fun k x h => ?_⟩
  · by_cases hi : i < wr.length
    · rw [List.getElem?_append_left hi] at hx
      by_cases hj : j < wr.length
      · rw [List.getElem?_append_left hj] at hy
        exact hD.1 i j x y (inr i x hx) (inr j y hy) hxy
      · rw [List.getElem?_append_right (by omega)] at hy
        have := hD1.2 _ y hy
        rw [← hxy] at this
        exact absurd this (na i x hx)
    · rw [List.getElem?_append_right (by omega)] at hx
      by_cases hj : j < wr.length
      · rw [List.getElem?_append_left hj] at hy
        have := hD1.2 _ x hx
        rw [hxy] at this
        exact absurd this (na j y hy)
      · rw [List.getElem?_append_right (by omega)] at hy
        have := hD1.1 _ _ x y hx hy hxy
        omega
  · by_cases hk2 : k < wr.length
    · rw [List.getElem?_append_left hk2] at h
      exact hD.2 k x (inr k x h)
    · rw [List.getElem?_append_right (by omega)] at h
      exact hF _ (hD1.2 _ x h)
section
variable {C : kT} {own : String} {cc : ByteArray} {nL h cs ss N M pc : Nat} {la : Array Slot} {st : List Value} {ws : va_W}
theorem kx_al (hC : kOK C own cc nL h cs ss) {kn : List (Nat × Value)} (hl : lv_has la nL kn) (j : Nat) {i a : Nat} {k : Fin 4} (hk : kn[j]? = some (i, .ref a)) (hi : (k : Nat) = i) (hd : decode cc pc = .ok (.aload_n k, 1)) (hW : kW C N M (pc + 1) la (.ref a :: st) ws) : kW C N M pc la st ws := by
  obtain ⟨p, l, e, R, s, m, args, below, meth, c, D, cy, A, Q⟩ := C
  obtain ⟨⟨hx, hb, -⟩, -⟩ := hC
  intro H locs hP hD hS
  exact lv_aload_n hx hb hd hi (lv_at hl j hk) (hW H locs hP hD hS)
theorem kx_obj (hC : kOK C own cc nL h cs ss) {idx a : Nat} (hlk : Cond.methodLink own idx Lib.objectInit ∈ px_ws) (hi : Cond.instanceMethod Lib.objectInit ∈ px_ws) (hc : Cond.code Lib.objectInit ⟨#[0xb1]⟩ 1 none ∈ px_ws) (hsz : la.size = nL) (h1 : 1 ≤ h) (hd : decode cc pc = .ok (.invokespecial idx, 3)) (hW : kW C N M (pc + 3) la [] ws) : kW C N M pc la [.ref a] ws := by
  obtain ⟨p, l, e, R, s, m, args, below, meth, c, D, cy, A, Q⟩ := C
  obtain ⟨⟨hx, hb, hml, hown, hts, -⟩, r1, r2, -⟩ := hC
  intro H locs hP hD hS
  have hr := lv_room (m := m) (pc := pc) (ls := la) (rest := [.ref a]) (st := []) (by decide)
  refine W.objInit hx hb hown (hts _ hlk) (hts _ hi) (hts _ hc) rfl (by rw [hml]; exact hsz) rfl hd (by omega) (by simp only [List.map_nil, List.sum_nil] at hr ⊢; omega) ?_
  exact W.eq (g2 := F0 m (pc + 3) la []) rfl (hW H locs hP hD hS)
theorem kx_int (hC : kOK C own cc nL h cs ss) {i : Instr} {len : Nat} {v : Int32} (hd : decode cc pc = .ok (i, len)) (hi : (∃ n : Int, i = .iconst n ∧ len = 1 ∧ Int32.ofInt n = v) ∨ (∃ n : Int, i = .bipush n ∧ len = 2 ∧ (Int8.ofInt n).toInt32 = v) ∨ ∃ n : Int, i = .sipush n ∧ len = 3 ∧ (Int16.ofInt n).toInt32 = v) (hW : kW C N M (pc + len) la (.int v :: st) ws) : kW C N M pc la st ws := by
  obtain ⟨p, l, e, R, s, m, args, below, meth, c, D, cy, A, Q⟩ := C
  obtain ⟨⟨hx, hb, -⟩, -⟩ := hC
  intro H locs hP hD hS
  rcases hi with ⟨n, rfl, rfl, hv⟩ | ⟨n, rfl, rfl, hv⟩ | ⟨n, rfl, rfl, hv⟩
  · exact lv_iconst hx hb hd hv (hW H locs hP hD hS)
  · exact lv_bipush hx hb hd hv (hW H locs hP hD hS)
  · exact lv_sipush hx hb hd hv (hW H locs hP hD hS)
theorem kx_dup (hC : kOK C own cc nL h cs ss) {v : Value} (hd : decode cc pc = .ok (.dup, 1)) (hv : v.category = 1) (hW : kW C N M (pc + 1) la (v :: v :: st) ws) : kW C N M pc la (v :: st) ws := by
  obtain ⟨p, l, e, R, s, m, args, below, meth, c, D, cy, A, Q⟩ := C
  obtain ⟨⟨hx, hb, -⟩, -⟩ := hC
  intro H locs hP hD hS
  exact lv_dup hx hb hd hv (hW H locs hP hD hS)
theorem kx_put (hC : kOK C own cc nL h cs ss) (hin : kIn C) {idx ci b q0 a : Nat} {fs : List Value} {v : Value} (hlk : Cond.fieldLink own idx (pn_Tf ci b).1 (pn_Tf ci b).2.1 (pn_Tf ci b).2.2.1 ∈ px_ws) (hci : ci < 13) (hdecl : (pn_Tf ci b).1 = own) (hbN : b < (pn_fk ci).length) (hn : narrow (pn_tf ci b) v = v) (hf : fits (pn_tf ci b) v = true) (he : ws[q0]? = some (a, .inr (ci, fs))) (hl : b < fs.length) (hd : decode cc pc = .ok (.putfield idx, 3)) (hW : kW C N M (pc + 3) la st (ws.set q0 (a, .inr (ci, fs.set b v)))) : kW C N M pc la (v :: .ref a :: st) ws := by
  obtain ⟨p, l, e, R, s, m, args, below, meth, c, D, cy, A, Q⟩ := C
  obtain ⟨⟨hx, hb, hml, hown, hts, hK, hA⟩, -⟩ := hC
  have hin : meth.name = "<init>" := hin
  intro H locs hP hD hS
  obtain ⟨C0, N0, hcl, hin0, hty, hnm, hfk, -⟩ := pn_cf ci hci
  have hb2 : b < N0 := by rw [hfk] at hbN; simpa using hbN
  cases hfin : (pn_Tf ci b).2.2.2 with
  | false => exact va_put (D := D) (v := v) (ty := pn_tf ci b) hx hb hts hin0 (pn_tf ci) hty hnm hown hK hP hD hS q0 he hcl b hb2 (hts _ hlk) (fun _ h => h) hfin (hty b hb2) hn hf hl hd (fun H1 locs1 hP1 hD1 hS1 => hW H1 locs1 hP1 hD1 hS1)
  | true => exact va_putF (D := D) (v := v) (ty := pn_tf ci b) hx hb hts hin0 (pn_tf ci) hty hnm hown hK hP hD hS q0 he hcl b hb2 (hts _ hlk) (fun _ h => h) hfin hin hdecl (hty b hb2) hn hf hl hd (fun H1 locs1 hP1 hD1 hS1 => hW H1 locs1 hP1 hD1 hS1)
theorem kx_new (hC : kOK C own cc nL h cs ss) {idx ci : Nat} {r : vw_C} (hci : ci < 13) (hcl : pn_cl[ci]? = some r) (h1 : Cond.classLink own idx r.1 ∈ px_ws) (h2 : Cond.instantiable r.1 r.2.2 ∈ px_ws) (h3 : Cond.initialized r.1 ∈ px_ws) (hfs : ∀ j, j < r.2.2 → defaultValue (pn_tf ci j) = vp_V (kz ci) j) (hN : N + 1 ≤ cs) (hM : M + r.2.2 ≤ ss) (hd : decode cc pc = .ok (.new idx, 3)) (hW : ∀ q, kW C (N + 1) (M + r.2.2) (pc + 3) la (.ref q :: st) (ws ++ [(q, .inr (ci, kz ci))])) : kW C N M pc la st ws := by
  obtain ⟨p, l, e, R, s, m, args, below, meth, c, D, cy, A, Q⟩ := C
  obtain ⟨⟨hx, hb, hml, hown, hts, hK, hA⟩, -, -, r3, r4⟩ := hC
  intro H locs hP hD hS
  obtain ⟨C0, N0, hcl0, hin0, hty, hnm, hfk, -⟩ := pn_cf ci hci
  have hr : r = (C0, pn_Tf ci, N0) := Option.some.inj (hcl.symm.trans hcl0)
  subst hr
  exact va_new (ci := ci) (fs := kz ci) hx hb hts hin0 (pn_tf ci) hty hown (hts _ h1) (hts _ h2) (hts _ h3) hK hP hD hS hA hcl0 hfs (Nat.le_trans hN r3) (Nat.le_trans hM r4) hd (fun q H1 hP1 hD1 hS1 => hW q H1 locs hP1 hD1 hS1)
theorem kx_newa (hC : kOK C own cc nL h cs ss) {t n : Nat} {at0 : ArrayType} (ht : (t = 0 ∧ at0 = .int) ∨ (t = 1 ∧ at0 = .byte) ∨ (t = 2 ∧ at0 = .boolean) ∨ (t = 3 ∧ at0 = .long)) (hw : Cond.arrayClass (newarray.typeOf at0) ∈ px_ws) (hn : n < 10000) (hN : N + 1 ≤ cs) (hM : M + n ≤ ss) (hd : decode cc pc = .ok (.newarray at0, 2)) (hW : ∀ q, kW C (N + 1) (M + n) (pc + 2) la (.ref q :: st) (ws ++ [(q, .inl (kcy C t, kza t n))])) : kW C N M pc la (.int (nI n) :: st) ws := by
  obtain ⟨p, l, e, R, s, m, args, below, meth, c, D, cy, A, Q⟩ := C
  obtain ⟨⟨hx, hb, hml, hown, hts, hK, hA⟩, -, -, r3, r4⟩ := hC
  intro H locs hP hD hS
  have hn0 : ¬ nI n < 0 := by
    have := nI_ltI (a := n) (b := 0) (by omega) (by omega)
    intro q
    exact absurd (this.mp q) (by omega)
  have go : ∀ ty, newarray.typeOf at0 = ty → (∃ k : Nat, (px_tys cy)[k]? = some (cy t, ty)) → (n * componentBytes ty ≤ 536870912) → (∀ cA : ClassId, vp_cell cA (kza t n) = arrV cA n (fun _ => defaultValue ty)) → (∀ cA, va_RA s cA ty = (s.vm.findClass ("[" ++ ty.toString) = some cA)) → W p l e R s m args below meth c H locs N M Q (F0 m pc la (.int (nI n) :: st)) := by
    intro ty hty ⟨k, hk⟩ hby ha hra
    subst hty
    refine va_newa (a0 := kza t n) hx hb (hts _ hw) rfl hK hP hD hS hA ha hn0 (nI_clamp (by omega)) hby (Nat.le_trans hN r3) (Nat.le_trans hM r4) hd (fun q cA H1 hK1 hP1 hD1 hS1 => ?_)
    have e1 : s.vm.findClass ("[" ++ (newarray.typeOf at0).toString) = some (cy t) := by
      have := (hK.2 k _ hk).2
      rw [hra] at this; exact this
    have e2 : s.vm.findClass ("[" ++ (newarray.typeOf at0).toString) = some cA := by
      have := (hK1.2 (px_tys cy).length (cA, newarray.typeOf at0) (by simp)).2
      rw [hra] at this; exact this
    have e3 : cA = cy t := Option.some.inj (e2.symm.trans e1)
    rw [e3] at hP1 hD1
    exact hW q H1 locs hP1 hD1 hS1
  rcases ht with ⟨rfl, rfl⟩ | ⟨rfl, rfl⟩ | ⟨rfl, rfl⟩ | ⟨rfl, rfl⟩
  · exact go .int rfl ⟨0, rfl⟩ (by simp only [componentBytes]; omega) (fun _ => rfl) (fun _ => rfl)
  · exact go .byte rfl ⟨1, rfl⟩ (by simp only [componentBytes]; omega) (fun _ => rfl) (fun _ => rfl)
  · exact go .boolean rfl ⟨2, rfl⟩ (by simp only [componentBytes]; omega) (fun _ => rfl) (fun _ => rfl)
  · exact go .long rfl ⟨3, rfl⟩ (by simp only [componentBytes]; omega) (fun _ => rfl) (fun _ => rfl)
theorem kx_call (hC : kOK C own cc nL h cs ss) {j : pn_I} {idx ci h' cs' ss' a : Nat} {F : (Nat → ClassId) → (Nat → Nat) → va_W} (hM : kM j ci h' cs' ss' F) (hret : j.2.2.2.2.1 = none) (hnm : j.2.1.name = "<init>") (hc : Cond.code j.2.1 j.2.2.1 j.2.2.2.1 j.2.2.2.2.1 ∈ px_ws) (hi : Cond.initialized j.2.1.cls ∈ px_ws) (hin : Cond.instanceMethod j.2.1 ∈ px_ws) (hlk : Cond.methodLink own idx j.2.1 ∈ px_ws) (hmok : pn_mok j = true) (h0 : j.2.2.2.2.2 = 0) (hh : h' + 1 ≤ h) (hcs : N + cs' ≤ cs) (hss : M + ss' ≤ ss) (hsz : la.size = nL) (hst : (st.map fun v => v.category).sum ≤ 8) (hd : decode cc pc = .ok (.invokespecial idx, 3)) (hW : ∀ f : Nat → Nat, f 0 = a → kW C (N + cs') (M + ss') (pc + 3) la st (ws ++ F (kcy C) f)) : kW C N M pc la (.ref a :: st) (ws ++ [(a, .inr (ci, kz ci))]) := by
  obtain ⟨p, l, e, R, s, m, args, below, meth, c, D, cy, A, Q⟩ := C
  obtain ⟨⟨hx, hb, hml, hown, hts, hK, hA⟩, r1, r2, r3, r4⟩ := hC
  simp only [pn_mok, Bool.and_eq_true, decide_eq_true_eq] at hmok
  obtain ⟨⟨⟨⟨m1, m2⟩, m3⟩, m4⟩, m5⟩ := hmok
  intro H locs hP hD hS
  have hPc : va_P D pn_cl [(a, .inr (ci, kz ci))] H := fun k x hx => hP (ws.length + k) x (by rw [List.getElem?_append_right (by omega), Nat.add_sub_cancel_left]; exact hx)
  have hFc : ∀ q, va_A [(a, .inr (ci, kz ci))] H.size q → A q := fun q hq => by
    rcases hq with ⟨k, e, hk⟩ | hq
    · exact hD.2 (ws.length + k) (q, e) (by rw [List.getElem?_append_right (by omega), Nat.add_sub_cancel_left]; exact hk)
    · exact hA q (Nat.le_trans hS.1 hq)
  have hcB := callB_of (R := R) (mc := cs') (ms := ss') (rm := { frames := h', cells := cs', slots := ss', locals := 64 * h' }) 0 hts (px_good hc) rfl rfl rfl (hts _ hi) (hts _ hlk) ⟨m2, m3, by rw [m4, h0]⟩ ⟨by show h' + 1 ≤ R.frames; omega, by show 8 + (j.2.2.2.1 + 11) + 64 * h' ≤ R.locals; omega⟩
  rw [hret] at hcB
  have hMet := hM l D cy a H.size
  rw [hret] at hMet
  refine va_callv (va_runI (As := []) (rest := st) ⟨hx, hb, hml, hown, hts⟩ hMet ⟨hcB, hnm, hts _ hin⟩ ⟨fun a U g mk q => by obtain ⟨q0, q1, qP, qK⟩ := q; exact ⟨q0, q1, qP, va_K.moved (u := U) (U := U.calling g mk a) (Vm.Alike.refl U.vm) qK⟩, fun U hU hW => ⟨rfl, by rw [hU], by rw [hU]; exact hPc, va_K.moved hW.alike hK⟩⟩ rfl rfl hsz rfl (lv_room hst) hd ⟨Nat.le_trans hcs r3, Nat.le_trans hss r4⟩) hS (fun q _ h => hFc q h) hFc (fun u t H1 locs ht hvm h5 hB hz1 hk1 hS => ?_)
  obtain ⟨hP1, hD1⟩ := hB
  rw [ht] at hP1
  obtain ⟨hP2, hD2⟩ := kx_join hP hD hk1 hFc hP1 hD1
  exact hW u h5 H1 locs hP2 hD2 hS
end
theorem kx_enter {j : pn_I} {ci h cs ss : Nat} {F : (Nat → ClassId) → (Nat → Nat) → va_W} (hy : Jvm.plainName j.2.1.cls = true) (hown : pn_own j.1 = j.2.1.cls) (hret : j.2.2.2.2.1 = none) (hnm : j.2.1.name = "<init>") (hnl : 1 ≤ j.2.2.2.1) (body : ∀ (C : kT) (a : Nat) (la : Array Slot), kOK C (pn_own j.1) j.2.2.1 j.2.2.2.1 h cs ss → kIn C → lv_has la j.2.2.2.1 [(0, .ref a)] → (∀ pc la f, decode j.2.2.1 pc = .ok (.return_, 1) → f 0 = a → kW C cs ss pc la [] (F (kcy C) f)) → kW C 0 0 0 la [] [(a, .inr (ci, kz ci))]) : kM j ci h cs ss F := by
  intro l D cy a sz
  refine Met.ofW (cc := j.2.2.1) (maxL := j.2.2.2.1) (ret := j.2.2.2.2.1) hy rfl ?_
  intro p e s m args below meth c s₁ B hml hv
  obtain ⟨rfl, hsz, hP, hK⟩ := hv
  have hts := atoms_spec (ws := Cond.code j.2.1 j.2.2.1 j.2.2.2.1 j.2.2.2.2.1 :: px_ws) B.pre
  have ho : s.vm.findClass (pn_own j.1) = some m.cls := by rw [hown]; exact findClass_of_methodNamed B.named
  have hin : meth.name = "<init>" := by rw [(name_of_methodNamed B.named B.method).1]; exact hnm
  have hr := B.returns
  rw [hret] at hr
  have hlocks := B.notSynchronized
  subst hsz
  have hD : va_D (va_A [(a, .inr (ci, kz ci))] s.heap.size) [(a, .inr (ci, kz ci))] := ⟨fun i k x y hx hy _ => by
    have h1 := (List.getElem?_eq_some_iff.mp hx).1
    have h2 := (List.getElem?_eq_some_iff.mp hy).1
    simp at h1 h2
    omega, fun k x hk => va_A.in hk⟩
  have hl := lv_entry ([.ref a]) (n := j.2.2.2.1) (show (lg_sl ([.ref a] : List Value)).length ≤ j.2.2.2.1 from hnl)
  rw [lg_entry_eq]
  generalize (lg_sl ([.ref a]) ++ List.replicate (j.2.2.2.1 - (lg_sl ([.ref a])).length) Slot.unset).toArray = ls at hl ⊢
  have hl : lv_has ls j.2.2.2.1 [(0, .ref a)] := hl
  have key := body (p, l, e, (headSpec (Cond.code j.2.1 j.2.2.1 j.2.2.2.1 j.2.2.2.2.1 :: px_ws) { frames := h, cells := cs, slots := ss, locals := 64 * h }).room, s, m, [Value.ref a].toArray, below, meth, c, D, cy, va_A [(a, .inr (ci, kz ci))] s.heap.size, MQ below (va_Qv (fun f : Nat → Nat => f 0 = a) (fun f t => va_P D pn_cl (F cy f) t.heap ∧ va_D (va_A [(a, .inr (ci, kz ci))] s.heap.size) (F cy f)) (va_A [(a, .inr (ci, kz ci))] s.heap.size)) [Value.ref a].toArray s cs ss (va_A [(a, .inr (ci, kz ci))] s.heap.size)) a ls ⟨⟨B.exec, B.bytes, hml, ho, fun w hw => hts w (List.mem_cons_of_mem _ hw), hK, fun q hq => Or.inr hq⟩, Nat.le_refl _, Nat.le_refl _, Nat.le_refl _, Nat.le_refl _⟩ hin hl (fun pc la f hd hf H locs hP1 hD1 hS1 => by
    exact W.vret B.exec B.bytes hr (fun t ht hW => ⟨⟨f, rfl, hf, by rw [ht]; exact hP1, hD1⟩, hS1.F ht⟩) hS1.2.2 hd)
  exact key s.heap [] hP hD va_S.rf
