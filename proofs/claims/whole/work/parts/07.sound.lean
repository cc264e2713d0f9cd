/-! calls -/
theorem px_X_mv {ad : Nat → Nat} {A A1 : Nat → Prop} {s U : State} (h : px_X ad A s) (hvm : s.vm.Alike U.vm) (hq : ∀ a : Nat, a < s.heap.size → ¬ A a → U.heap[a]? = s.heap[a]?) (hA : ∀ q, A1 q → A q) (hR : ∀ own k tx a, vk_R own k tx a s → vk_R own k tx a U) : px_X ad A1 U := by
  obtain ⟨h1, h2, h3, h4, o, h5⟩ := h
  refine ⟨fun i hi => ?_, fun q hz t n hn => ?_, fun q hz => hR _ _ _ _ (h3 q hz), fun q hz => ?_, o, ?_⟩
  · obtain ⟨g1, g2, g3⟩ := h1 i hi
    exact ⟨((g1.kept hq).narrow hA).moved hvm, ((g2.kept hq).narrow hA).moved hvm, ((g3.kept hq).narrow hA).moved hvm⟩
  · exact (((h2 q hz t n hn).kept hq).narrow hA).moved hvm
  · exact (((h4 q hz).kept hq).narrow hA).moved hvm
  · exact ((h5.kept hq).narrow hA).moved hvm
theorem px_X_calling {ad : Nat → Nat} {A : Nat → Prop} {U : State} {g : JFrame} {mk : MethodId} {a : Array Value} (h : px_X ad A U) : px_X ad A (U.calling g mk a) := px_X_mv h (Vm.Alike.refl U.vm) (fun _ _ _ => rfl) (fun _ hq => hq) (fun _ _ _ _ hz => vk_R.same (u := U) rfl hz)
theorem px_X_call {ad : Nat → Nat} {A A1 : Nat → Prop} {s U : State} {H : Heap} {locs : List Loc} (h : px_X ad A s) (hS : va_S A s.heap H locs) (hU : U.heap = H) (hW : s.WarmedH U.vm) (hA : ∀ q, A1 q → A q) : px_X ad A1 U := px_X_mv h hW.alike (fun a h1 h2 => by rw [hU]; exact hS.2.1 a h1 h2) hA (fun _ _ _ _ hz => vk_R.warm hW hz)
section
variable {p : Program} {l : Launch} {e : Env} {R : Room} {s : State} {m : MethodId} {args : Array Value} {below : List Frame} {meth : Method} {c : Code} {H : Heap} {locs : List Loc} {Q : State → Prop}
theorem px_call_go {D : va_G} {cy : Nat → ClassId} {ad : Nat → Nat} {tab : px_T} {A1 A0 : Nat → Prop} {H0 : Heap} {pc : Nat} {la : Array Slot} {st0 rest : List Value} {a : Array Value} {k' : Option px_V → px_M → Prop} (hr : va_Run p l e R s m args below meth c H locs 0 0 0 0 (F0 m pc la st0) rest (px_Q k' D cy ad tab A1 a) A1) (hS : va_S A0 H0 H locs) (hA : ∀ q, A1 q → A0 q)
    (kk : ∀ (r : Option px_V) (σ : px_M) (H1 : Heap) (locs1 : List Loc), k' r σ → va_P D pn_cl (px_w cy ad tab σ) H1 → va_S A0 H0 H1 locs1 → W p l e R s m args below meth c H1 locs1 0 0 Q (F0 m (pc + 3) la ((r.map (px_v ad)).toList ++ rest))) : W p l e R s m args below meth c H locs 0 0 Q (F0 m pc la st0) := by
  intro T hT X
  obtain ⟨v, st₀, t, T', L, h0, X', hL, e1, e2, ⟨⟨r, σ, hv, hk, hP⟩, hz, hkq⟩, st⟩ := hr T hT X
  cases hv
  rw [h0] at hz hkq
  obtain ⟨t2, a1, b1⟩ := kk r σ T'.heap (locs ++ L) hk (by rw [e1]; exact hP)
    ⟨Nat.le_trans hS.1 (by rw [e1]; exact hz), fun q h1 h2 => by rw [e1, hkq q (Nat.lt_of_lt_of_le h1 hS.1) (fun z => h2 (hA q z))]; exact hS.2.1 q h1 h2, fun q hq => by
      rcases List.mem_append.mp hq with h | h
      · exact hS.2.2 q h
      · exact hA _ (hL q h)⟩ T' rfl X'
  exact ⟨t2, st t2 a1, b1⟩
end
theorem px_sz_eq {ad : Nat → Nat} : ∀ (st : List px_V), ((st.map (px_v ad)).map fun v => v.category).sum = px_sz st := by
  intro st
  induction st with
  | nil => rfl
  | cons x s ih =>
    simp only [List.map_cons, List.sum_cons, ih]
    rcases x with x | x | x
    · simp [px_v, px_sz, Value.category]; omega
    · simp [px_v, px_sz, Value.category]; omega
    · cases x <;> simp [px_v, px_sz, Value.category, va_rf] <;> omega
theorem px_good {y : MethodName} {b : ByteArray} {n : Nat} {r : Option FieldType} (h : Cond.code y b n r ∈ px_ws) : GoodIn px_ws (Cond.code y b n r :: px_ws) := by
  intro w hw
  have h1 : w ∈ px_ws := by
    rcases List.mem_cons.mp hw with rfl | h'
    · exact h
    · exact h'
  exact ⟨h1, good_of_word (List.mem_filter.mp h1).2⟩
theorem px_A1 {D : va_G} {cy : Nat → ClassId} {ad : Nat → Nat} {tab : px_T} {A : Nat → Prop} {H0 H : Heap} {locs : List Loc} {σ : px_M} (hD : va_D A (px_w cy ad tab σ)) (hA : ∀ q, H0.size ≤ q → A q) (hS : va_S A H0 H locs) : ∀ q, va_A (px_w cy ad tab σ) H.size q → A q := by
  intro q hq
  rcases hq with ⟨k, e, he⟩ | hq
  · exact hD.2 k (q, e) he
  · exact hA q (Nat.le_trans hS.1 hq)
section
variable {C : px_C} {i : pn_I} {h : Nat} {k : Option px_V → px_M → Prop} {pc : Nat} {ls : px_Ls} {st : List px_V} {σ : px_M}
theorem px_r_calls (hC : px_ok C i h) {idx h' : Nat} {j : pn_I} {S : px_S} (hM : px_Ok (px_tb C) j h' S) (hh : h' + 1 ≤ h) (hc : Cond.code j.2.1 j.2.2.1 j.2.2.2.1 j.2.2.2.2.1 ∈ px_ws) (hi : Cond.initialized j.2.1.cls ∈ px_ws) (hst : Cond.static j.2.1 ∈ px_ws) (hlk : Cond.methodLink (pn_own i.1) idx j.2.1 ∈ px_ws) (hmok : pn_mok j = true) {av : List px_V} {k' : Option px_V → px_M → Prop} (hS' : S av σ k') (hn : av.length = j.2.2.2.2.2) (hsz : px_sz st ≤ 8) (hln : ls.length = i.2.2.2.1) (hd : decode i.2.2.1 pc = .ok (.invokestatic idx, 3)) (kk : ∀ (r : Option px_V) (σ' : px_M), k' r σ' → px_W C k (pc + 3) ls (r.toList ++ st) σ') : px_W C k pc ls (av.reverse ++ st) σ := by
  obtain ⟨p, l, e, R, s, m, args, below, meth, c, D, cy, ad, tab, A⟩ := C
  obtain ⟨hx, hb, hml, hret, hlocks, hown, hts, hK, hD, hA, hR, hnd, hXX⟩ := hC
  simp only [pn_mok, Bool.and_eq_true, decide_eq_true_eq] at hmok
  obtain ⟨⟨⟨⟨m1, m2⟩, m3⟩, m4⟩, m5⟩ := hmok
  intro H locs la hl hP hS
  have hA1 := px_A1 (D := D) (hD σ) hA hS
  have hrun := va_runS (p := p) (l := l) (e := e) (R := R) (below := below) (meth := meth) (H := H) (locs := locs) (cells := 0) (slots := 0) (As := av.map (px_v ad)) (rest := st.map (px_v ad)) (g := F0 m pc la ((av.reverse ++ st).map (px_v ad))) ⟨hx, hb, hml, hown, hts⟩ (hM l D cy ad H.size av σ k' hS')
    ⟨callB_of j.2.2.2.2.2 hts (px_good hc) rfl rfl rfl (hts _ hi) (hts _ hlk) ⟨m2, m3, m4⟩ ⟨by rw [hR]; exact hh, by rw [hR]; show 8 + (j.2.2.2.1 + 11) + 64 * h' ≤ 64 * h; omega⟩, hts _ hst⟩
    ⟨fun a U g mk q => by
        obtain ⟨q0, q1, q2, q3, q4, q5⟩ := q
        exact ⟨q0, q1, q2, va_K.moved (u := U) (U := U.calling g mk a) (Vm.Alike.refl U.vm) q3, q4, px_X_calling q5⟩,
      fun U hU hW => ⟨rfl, by rw [hU], by rw [hU]; exact hP, va_K.moved hW.alike hK, (hD σ).weaken (fun _ _ _ _ => trivial), px_X_call hXX hS hU hW hA1⟩⟩
    rfl (by simp [hn]) (by show la.size = _; rw [hl.1, hln]) (by simp [List.map_append, List.map_reverse]) (lv_room (by rw [px_sz_eq]; exact hsz)) hd ⟨Nat.zero_le _, Nat.zero_le _⟩
  refine px_call_go hrun hS hA1 (fun r σ' H1 locs1 hk1 hP1 hS1 => ?_)
  have hz := kk r σ' hk1 H1 locs1 la hl hP1 hS1
  have he : (r.toList ++ st).map (px_v ad) = (r.map (px_v ad)).toList ++ st.map (px_v ad) := by cases r <;> rfl
  rw [he] at hz
  exact hz
theorem px_r_callv (hC : px_ok C i h) {idx h' : Nat} {j : pn_I} {S : px_S} (hM : px_Ok (px_tb C) j h' S) (hh : h' + 1 ≤ h) (hc : Cond.code j.2.1 j.2.2.1 j.2.2.2.1 j.2.2.2.2.1 ∈ px_ws) (hi : Cond.initialized j.2.1.cls ∈ px_ws) (hin : Cond.instanceMethod j.2.1 ∈ px_ws) (hse : Cond.selects j.2.1.cls j.2.1 j.2.1 ∈ px_ws) (hlk : Cond.methodLink (pn_own i.1) idx j.2.1 ∈ px_ws) (hmok : pn_mok j = true) {r0 : Nat} {av : List px_V} {k' : Option px_V → px_M → Prop} (hS' : S (.inr (.inr (some r0)) :: av) σ k') (hj : j.1 < 13 ∨ j.1 = 23) (ho : px_obj (px_lay (px_tb C) r0) j.1) (hn : av.length = j.2.2.2.2.2) (hsz : px_sz st ≤ 8) (hln : ls.length = i.2.2.2.1) (hd : decode i.2.2.1 pc = .ok (.invokevirtual idx, 3)) (kk : ∀ (r : Option px_V) (σ' : px_M), k' r σ' → px_W C k (pc + 3) ls (r.toList ++ st) σ') : px_W C k pc ls (av.reverse ++ .inr (.inr (some r0)) :: st) σ := by
  obtain ⟨p, l, e, R, s, m, args, below, meth, c, D, cy, ad, tab, A⟩ := C
  obtain ⟨hx, hb, hml, hret, hlocks, hown, hts, hK, hD, hA, hR, hnd, hXX⟩ := hC
  simp only [pn_mok, Bool.and_eq_true, decide_eq_true_eq] at hmok
  obtain ⟨⟨⟨⟨m1, m2⟩, m3⟩, m4⟩, m5⟩ := hmok
  intro H locs la hl hP hS
  have hrecv : ∃ cell : Cell, H[ad r0]? = some cell ∧ cell.vm.isStatics = false ∧ s.vm.findClass j.2.1.cls = some cell.cls := by
    rcases hj with hj | hj
    · obtain ⟨C0, N, hcl, -, -, -, -, hC0⟩ := pn_cf j.1 hj
      obtain ⟨q0, he, -⟩ := px_w_get (cy := cy) (ad := ad) (σ := σ) (px_obj_spec ho) (by simp [px_xb]; omega)
      have hrecv := va_recv hK hP hcl he
      have hCc : C0 = j.2.1.cls := hC0.trans m1
      rw [← hCc]; exact hrecv
    · rw [hj] at ho
      have h1 := hnd.2 _ (px_lay_mem (px_obj_spec ho)) rfl
      obtain ⟨jj, hjj, hr⟩ := px_xt_str _ h1 rfl
      have hr : r0 = 1000 + jj := hr
      subst hr
      obtain ⟨cell, c1, c2, c3, -⟩ := (hXX.1 jj hjj).1.kept hS.2.1
      refine ⟨cell, c1, c2, ?_⟩
      rw [← m1, hj]; exact c3
  have hA1 := px_A1 (D := D) (hD σ) hA hS
  have hrun := va_runV (p := p) (l := l) (e := e) (R := R) (below := below) (meth := meth) (H := H) (locs := locs) (cells := 0) (slots := 0) (C := j.2.1.cls) (b := ad r0) (As := av.map (px_v ad)) (rest := st.map (px_v ad)) (g := F0 m pc la ((av.reverse ++ .inr (.inr (some r0)) :: st).map (px_v ad))) ⟨hx, hb, hml, hown, hts⟩ (hM l D cy ad H.size (.inr (.inr (some r0)) :: av) σ k' hS')
    ⟨callB_of j.2.2.2.2.2 hts (px_good hc) rfl rfl rfl (hts _ hi) (hts _ hlk) ⟨m2, m3, m4⟩ ⟨by rw [hR]; exact hh, by rw [hR]; show 8 + (j.2.2.2.1 + 11) + 64 * h' ≤ 64 * h; omega⟩, hts _ hin, hts _ hse⟩
    ⟨fun a U g mk q => by
        obtain ⟨q0, q1, q2, q3, q4, q5⟩ := q
        exact ⟨q0, q1, q2, va_K.moved (u := U) (U := U.calling g mk a) (Vm.Alike.refl U.vm) q3, q4, px_X_calling q5⟩,
      hrecv,
      fun U hU hW => ⟨rfl, by rw [hU], by rw [hU]; exact hP, va_K.moved hW.alike hK, (hD σ).weaken (fun _ _ _ _ => trivial), px_X_call hXX hS hU hW hA1⟩⟩
    rfl (by simp [hn]) (by show la.size = _; rw [hl.1, hln]) (by simp [List.map_append, List.map_reverse, px_v, va_rf]) (lv_room (by rw [px_sz_eq]; exact hsz)) hd ⟨Nat.zero_le _, Nat.zero_le _⟩
  refine px_call_go hrun hS hA1 (fun r σ' H1 locs1 hk1 hP1 hS1 => ?_)
  have hz := kk r σ' hk1 H1 locs1 la hl hP1 hS1
  have he : (r.toList ++ st).map (px_v ad) = (r.map (px_v ad)).toList ++ st.map (px_v ad) := by cases r <;> rfl
  rw [he] at hz
  exact hz
theorem px_ma_i2 {st : List px_V} {f : Int32 → Int32 → List px_V → Prop} (h : px_i2 st f) : ∃ y x s, st = .inl y :: .inl x :: s ∧ f y x s := by
  rcases st with _ | ⟨(a | a | a), _ | ⟨(b | b | b), s⟩⟩ <;> first | exact h.elim | exact ⟨a, b, s, rfl, h⟩
theorem px_ma_l2 {st : List px_V} {f : Int64 → Int64 → List px_V → Prop} (h : px_l2 st f) : ∃ y x s, st = .inr (.inl y) :: .inr (.inl x) :: s ∧ f y x s := by
  rcases st with _ | ⟨(a | a | a), _ | ⟨(b | b | b), s⟩⟩ <;> first | exact h.elim | exact ⟨a, b, s, rfl, h⟩
set_option maxRecDepth 100000 in
theorem px_r_ma (hC : px_ok C i h) (h1 : 1 ≤ h) {idx a d : Nat} (had : d = a - 19999 ∧ 20000 ≤ a ∧ a < 20004) (hc : Cond.code (pn_i a).2.1 (pn_i a).2.2.1 (pn_i a).2.2.2.1 (pn_i a).2.2.2.2.1 ∈ px_ws) (hi : Cond.initialized (pn_i a).2.1.cls ∈ px_ws) (hst : Cond.static (pn_i a).2.1 ∈ px_ws) (hlk : Cond.methodLink (pn_own i.1) idx (pn_i a).2.1 ∈ px_ws) {f : px_V → List px_V → Prop} (hv : px_ma d st f) (hd : decode i.2.2.1 pc = .ok (.invokestatic idx, 3)) (hf : ∀ v s, f v s → ls.length = i.2.2.2.1 ∧ px_sz s ≤ 8 ∧ px_W C k (pc + 3) ls (v :: s) σ) : px_W C k pc ls st σ := by
  obtain ⟨p, l, e, R, s0, m, args, below, meth, c, D, cy, ad, tab, A⟩ := C
  obtain ⟨hx, hb, hml, -, -, hown, hts, -, -, -, hR, -, -⟩ := hC
  have hcase : (a = 20000 ∧ d = 1) ∨ (a = 20001 ∧ d = 2) ∨ (a = 20002 ∧ d = 3) ∨ (a = 20003 ∧ d = 4) := by
    obtain ⟨hd0, ha1, ha2⟩ := had
    omega
  clear had
  intro H locs la hl hP hS
  have room : ∀ s : List px_V, px_sz s ≤ 8 → ∀ n, n ≤ 15 → ((s.map (px_v ad)).map fun v => v.category).sum + n ≤ R.locals := by
    intro s hs n hn
    rw [px_sz_eq, hR]
    show px_sz s + n ≤ 64 * h
    omega
  have fr : 1 ≤ R.frames := by rw [hR]; exact h1
  have hlen : ∀ (q : ls.length = i.2.2.2.1), c.maxLocals = la.size := fun q => by rw [hml, ← q]; exact hl.1.symm
  rcases hcase with ⟨rfl, rfl⟩ | ⟨rfl, rfl⟩ | ⟨rfl, rfl⟩ | ⟨rfl, rfl⟩
  · obtain ⟨y, x, s, rfl, hz⟩ := px_ma_i2 hv
    obtain ⟨q1, q2, q3⟩ := hf _ _ hz
    have hcode : Cond.code Lib.Math.max.name Lib.Math.max.code 2 (some .int) ∈ px_ws := by
      have e1 : (pn_i 20000).2.2.1 = Lib.Math.max.code := by decide +kernel
      rw [e1] at hc; exact hc
    exact va_mmax hx hb (hlen q1) hown (hts _ hlk) (hts _ hst) (hts _ hi) (hts _ hcode) fr (room s q2 13 (by omega)) (Nat.zero_le _) (Nat.zero_le _) hd (q3 H locs la hl hP hS)
  · obtain ⟨y, x, s, rfl, hz⟩ := px_ma_i2 hv
    obtain ⟨q1, q2, q3⟩ := hf _ _ hz
    have hcode : Cond.code Lib.Math.min.name Lib.Math.min.code 2 (some .int) ∈ px_ws := by
      have e1 : (pn_i 20001).2.2.1 = Lib.Math.min.code := by decide +kernel
      rw [e1] at hc; exact hc
    exact va_mmin hx hb (hlen q1) hown (hts _ hlk) (hts _ hst) (hts _ hi) (hts _ hcode) fr (room s q2 13 (by omega)) (Nat.zero_le _) (Nat.zero_le _) hd (q3 H locs la hl hP hS)
  · obtain ⟨y, x, s, rfl, hz⟩ := px_ma_l2 hv
    obtain ⟨q1, q2, q3⟩ := hf _ _ hz
    have hcode : Cond.code Lib.MathLoose.min_long.x Lib.MathLoose.min_long.code 4 (some .long) ∈ px_ws := by
      have e1 : (pn_i 20002).2.2.1 = Lib.MathLoose.min_long.code := by decide +kernel
      rw [e1] at hc; exact hc
    exact va_mmin_long hx hb (hlen q1) hown (hts _ hlk) (hts _ hst) (hts _ hi) (hts _ hcode) fr (room s q2 15 (by omega)) (Nat.zero_le _) (Nat.zero_le _) hd (q3 H locs la hl hP hS)
  · obtain ⟨y, x, s, rfl, hz⟩ := px_ma_l2 hv
    obtain ⟨q1, q2, q3⟩ := hf _ _ hz
    have hcode : Cond.code Lib.MathLoose.max_long.x Lib.MathLoose.max_long.code 4 (some .long) ∈ px_ws := by
      have e1 : (pn_i 20003).2.2.1 = Lib.MathLoose.max_long.code := by decide +kernel
      rw [e1] at hc; exact hc
    exact va_mmax_long hx hb (hlen q1) hown (hts _ hlk) (hts _ hst) (hts _ hi) (hts _ hcode) fr (room s q2 15 (by omega)) (Nat.zero_le _) (Nat.zero_le _) hd (q3 H locs la hl hP hS)
end
/-! a method's entry -/
def px_sl : List px_V → px_Ls
  | [] => []
  | .inr (.inl x) :: l => some (.inr (.inl x)) :: none :: px_sl l
  | .inl x :: l => some (.inl x) :: px_sl l
  | .inr (.inr x) :: l => some (.inr (.inr x)) :: px_sl l
def px_ini (av : List px_V) (n : Nat) : px_Ls := px_sl av ++ List.replicate (n - (px_sl av).length) none
theorem px_sl_len {ad : Nat → Nat} : ∀ av : List px_V, (lg_sl (av.map (px_v ad))).length = (px_sl av).length := by
  intro av
  induction av with
  | nil => rfl
  | cons x l ih =>
    rcases x with x | x | x
    · simp [px_sl, lg_sl, px_v, Value.category] at ih ⊢; exact ih
    · simp [px_sl, lg_sl, px_v, Value.category] at ih ⊢; exact ih
    · cases x <;> (simp [px_sl, lg_sl, px_v, Value.category, va_rf] at ih ⊢; exact ih)
theorem px_sl_at {ad : Nat → Nat} : ∀ (av : List px_V) (j t : Nat) (v : px_V), (px_sl av)[t]? = some (some v) → (j + t, px_v ad v) ∈ lv_args j (av.map (px_v ad)) := by
  intro av
  induction av with
  | nil => intro j t v h; simp [px_sl] at h
  | cons x l ih =>
    intro j t v h
    rcases x with x | x | x
    · rcases t with _ | t
      · simp [px_sl] at h; subst h; exact List.mem_cons_self
      · have := ih (j + 1) t v (by simpa [px_sl] using h)
        simp only [List.map_cons, lv_args]
        refine List.mem_cons_of_mem _ ?_
        simpa [px_v, Value.category, Nat.add_assoc, Nat.add_comm 1 t] using this
    · rcases t with _ | _ | t
      · simp [px_sl] at h; subst h; exact List.mem_cons_self
      · simp [px_sl] at h
      · have := ih (j + 2) t v (by simpa [px_sl] using h)
        simp only [List.map_cons, lv_args]
        refine List.mem_cons_of_mem _ ?_
        simpa [px_v, Value.category, Nat.add_assoc, Nat.add_comm 2 t] using this
    · have hc : (px_v ad (.inr (.inr x))).category = 1 := px_cat1 (by rintro ⟨z, hz⟩; cases hz)
      rcases t with _ | t
      · simp [px_sl] at h; subst h; exact List.mem_cons_self
      · have := ih (j + 1) t v (by simpa [px_sl] using h)
        simp only [List.map_cons, lv_args]
        refine List.mem_cons_of_mem _ ?_
        simpa [hc, Nat.add_assoc, Nat.add_comm 1 t] using this
theorem px_enter {tab : px_T} {i : pn_I} {h : Nat} {S : px_S} (hnd : px_nd tab) (hy : Jvm.plainName i.2.1.cls = true) (hown : pn_own i.1 = i.2.1.cls) (ha : ∀ av σ k, S av σ k → (px_sl av).length ≤ i.2.2.2.1) (body : ∀ (C : px_C), px_tb C = tab → px_ok C i h → ∀ av σ k, S av σ k → px_W C k 0 (px_ini av i.2.2.2.1) [] σ) : px_Ok tab i h S := by
  intro l D cy ad sz av σ k hS
  refine Met.ofW (cc := i.2.2.1) (maxL := i.2.2.2.1) (ret := i.2.2.2.2.1) hy rfl ?_
  intro p e s m args below meth c s₁ B hml hv
  obtain ⟨rfl, hsz, hP, hK, hD0, hX⟩ := hv
  have hts := atoms_spec (ws := Cond.code i.2.1 i.2.2.1 i.2.2.2.1 i.2.2.2.2.1 :: px_ws) B.pre
  have ho : s.vm.findClass (pn_own i.1) = some m.cls := by rw [hown]; exact findClass_of_methodNamed B.named
  subst hsz
  have hD : ∀ σ', va_D (va_A (px_w cy ad tab σ) s.heap.size) (px_w cy ad tab σ') := by
    intro σ'
    refine ⟨fun a b x y hx hy hxy => ?_, fun a x hx => ?_⟩
    · simp only [px_w, List.getElem?_map] at hx hy
      cases h1 : (px_in tab)[a]? with
      | none => simp [h1] at hx
      | some q1 =>
        cases h2 : (px_in tab)[b]? with
        | none => simp [h2] at hy
        | some q2 =>
          simp [h1] at hx; simp [h2] at hy
          subst hx; subst hy
          exact hD0.1 a b (ad q1.1, px_e cy ad σ q1.1 q1.2) (ad q2.1, px_e cy ad σ q2.1 q2.2) (by simp [px_w, h1]) (by simp [px_w, h2]) hxy
    · simp only [px_w, List.getElem?_map] at hx
      cases h1 : (px_in tab)[a]? with
      | none => simp [h1] at hx
      | some q1 =>
        simp [h1] at hx
        subst hx
        exact Or.inl ⟨a, px_e cy ad σ q1.1 q1.2, by simp [px_w, h1]⟩
  have hW := body (p, l, e, (headSpec (Cond.code i.2.1 i.2.2.1 i.2.2.2.1 i.2.2.2.2.1 :: px_ws) (px_room h)).room, s, m, (av.map (px_v ad)).toArray, below, meth, c, D, cy, ad, tab, va_A (px_w cy ad tab σ) s.heap.size) rfl
    ⟨B.exec, B.bytes, hml, B.returns, B.notSynchronized, ho, fun w hw => hts w (List.mem_cons_of_mem _ hw), hK, hD, fun q hq => Or.inr hq, rfl, hnd, hX⟩ av σ k hS
  have hle : (lg_sl (av.map (px_v ad))).length ≤ i.2.2.2.1 := by rw [px_sl_len]; exact ha av σ k hS
  have hl := lv_entry (av.map (px_v ad)) (n := i.2.2.2.1) hle
  have hlen : (px_ini av i.2.2.2.1).length = i.2.2.2.1 := by
    have := ha av σ k hS
    simp [px_ini]; omega
  have hL : px_L ad (lg_sl (av.map (px_v ad)) ++ List.replicate (i.2.2.2.1 - (lg_sl (av.map (px_v ad))).length) Slot.unset).toArray (px_ini av i.2.2.2.1) := by
    refine px_L_of (hl.1.trans hlen.symm) hl.2.1 fun t v ht => ?_
    refine hl.2.2 (t, px_v ad v) ?_
    have h1 : (px_sl av)[t]? = some (some v) := by
      unfold px_ini at ht
      by_cases hlt : t < (px_sl av).length
      · rw [List.getElem?_append_left hlt] at ht; exact ht
      · rw [List.getElem?_append_right (by omega)] at ht
        have := List.mem_of_getElem? ht
        simp at this
    have := px_sl_at (ad := ad) av 0 t v h1
    simpa using this
  have hz := hW s.heap [] _ hL hP va_S.rf
  rw [lg_entry_eq]
  exact hz
