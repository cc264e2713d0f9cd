/-! the law: a call, arguments, a case -/
theorem px_wD {cy : Nat → ClassId} {ad : Nat → Nat} {tab : px_T} {σ σ' : px_M} {A : Nat → Prop} (h : va_D A (px_w cy ad tab σ)) : va_D A (px_w cy ad tab σ') := by
  rw [kx_vD] at h ⊢
  have e : ∀ σ, (px_w cy ad tab σ).map Prod.fst = (px_in tab).map (fun q => ad q.1) := fun σ => by simp [px_w]
  refine ⟨by rw [e]; rw [e] at h; exact h.1, fun x hx => ?_⟩
  obtain ⟨q, hq, rfl⟩ := List.mem_map.mp hx
  exact h.2 (ad q.1, px_e cy ad σ q.1 q.2) (List.mem_map.mpr ⟨q, hq, rfl⟩)
/-- what a walk of the law has at hand -/
def lwF (p : Program) (s : State) (m : MethodId) (args : Array Value) (c : Code) (D : va_G) (cy : Nat → ClassId) (ad : Nat → Nat) : Prop := (p.tables.exec = Jvm.exec ∧ c.code = code ∧ c.maxLocals = 4 ∧ s.vm.findClass "NoThreeLaw" = some m.cls ∧ (∀ w ∈ px_ws, w.before args s = true)) ∧ va_K D pn_cl (px_tys cy) s ∧ (∀ σ, va_D (fun q => s.heap.size ≤ q) (px_w cy ad tT σ)) ∧ px_X ad (fun q => s.heap.size ≤ q) s
theorem px_obj_100 : px_obj (px_lay tT 100) 12 := by rw [la_100]; rfl
theorem px_obj_0 : px_obj (px_lay tT 0) 0 := by rw [la_0]; rfl
section
variable {p : Program} {l : Launch} {e : Env} {s : State} {m : MethodId} {args : Array Value} {below : List Frame} {meth : Method} {c : Code} {H : Heap} {locs : List Loc} {Q : State → Prop} {D : va_G} {cy : Nat → ClassId} {ad : Nat → Nat} {N M pc : Nat} {la : Array Slot} {st : List Value} {σ : px_M}
theorem lx_go {tab : px_T} {R : Room} {A1 A0 : Nat → Prop} {H0 : Heap} {st0 rest : List Value} {a : Array Value} {k' : Option px_V → px_M → Prop} (hr : va_Run p l e R s m args below meth c H locs N M 0 0 (F0 m pc la st0) rest (px_Q k' D cy ad tab A1 a) A1) (hS : va_S A0 H0 H locs) (hA : ∀ q, A1 q → A0 q)
    (kk : ∀ (r : Option px_V) (σ : px_M) (H1 : Heap) (locs1 : List Loc), k' r σ → va_P D pn_cl (px_w cy ad tab σ) H1 → va_S A0 H0 H1 locs1 → W p l e R s m args below meth c H1 locs1 N M Q (F0 m (pc + 3) la ((r.map (px_v ad)).toList ++ rest))) : W p l e R s m args below meth c H locs N M Q (F0 m pc la st0) := by
  intro T hT X
  obtain ⟨v, st₀, t, T', L, h0, X', hL, e1, e2, ⟨⟨r, σ, hv, hk, hP⟩, hz, hkq⟩, st⟩ := hr T hT X
  cases hv
  rw [h0] at hz hkq
  obtain ⟨t2, a1, b1⟩ := kk r σ T'.heap (locs ++ L) hk (by rw [e1]; exact hP)
    ⟨Nat.le_trans hS.1 (by rw [e1]; exact hz), fun q h1 h2 => by rw [e1, hkq q (Nat.lt_of_lt_of_le h1 hS.1) (fun z => h2 (hA q z))]; exact hS.2.1 q h1 h2, fun q hq => by
      rcases List.mem_append.mp hq with h | h
      · exact hS.2.2 q h
      · exact hA _ (hL q h)⟩ T' rfl X'
  exact ⟨t2, st t2 a1, b1⟩
theorem lx_call (hF : lwF p s m args c D cy ad) {ky idx h' r0 : Nat} {S : px_S} (hM : px_Ok tT (pn_i ky) h' S) (hmv : pn_MV.any (fun z => z.1 == ky) = true) (hlk : Cond.methodLink "NoThreeLaw" idx (pn_i ky).2.1 ∈ px_ws) (hh : h' ≤ 1200) {av : List px_V} {k' : Option px_V → px_M → Prop} (hS' : S (.inr (.inr (some r0)) :: av) σ k') (hj : (pn_i ky).1 < 13) (ho : px_obj (px_lay tT r0) (pn_i ky).1) (hn : av.length = (pn_i ky).2.2.2.2.2) (hsz : (st.map fun v => v.category).sum ≤ 8) (hla : la.size = 4) (hNM : N ≤ 600000 ∧ M ≤ 7302250) (hd : decode code pc = .ok (.invokevirtual idx, 3)) (hP : va_P D pn_cl (px_w cy ad tT σ) H) (hS : va_S (fun q => s.heap.size ≤ q) s.heap H locs)
    (kk : ∀ (r : Option px_V) (σ' : px_M) (H1 : Heap) (locs1 : List Loc), k' r σ' → va_P D pn_cl (px_w cy ad tT σ') H1 → va_S (fun q => s.heap.size ≤ q) s.heap H1 locs1 → W p l e room_1 s m args below meth c H1 locs1 N M Q (F0 m (pc + 3) la ((r.map (px_v ad)).toList ++ st))) : W p l e room_1 s m args below meth c H locs N M Q (F0 m pc la ((av.map (px_v ad)).reverse ++ .ref (ad r0) :: st)) := by
  obtain ⟨⟨hx, hb, hml, hown, hts⟩, hK, hD, hXX⟩ := hF
  obtain ⟨hc, hi, hin, hse, hmok⟩ := px_mv_spec hmv
  simp only [pn_mok, Bool.and_eq_true, decide_eq_true_eq] at hmok
  obtain ⟨⟨⟨⟨m1, m2⟩, m3⟩, m4⟩, m5⟩ := hmok
  have hrecv : ∃ cell : Cell, H[ad r0]? = some cell ∧ cell.vm.isStatics = false ∧ s.vm.findClass (pn_i ky).2.1.cls = some cell.cls := by
    obtain ⟨C0, N, hcl, -, -, -, -, hC0⟩ := pn_cf (pn_i ky).1 hj
    obtain ⟨q0, he, -⟩ := px_w_get (cy := cy) (ad := ad) (σ := σ) (px_obj_spec ho) (by simp [px_xb]; omega)
    have hrecv := va_recv hK hP hcl he
    have hCc : C0 = (pn_i ky).2.1.cls := hC0.trans m1
    rw [← hCc]; exact hrecv
  have hA1 := px_A1 (D := D) (hD σ) (fun q h => h) hS
  have hrun := va_runV (p := p) (l := l) (e := e) (R := room_1) (below := below) (meth := meth) (H := H) (locs := locs) (cells := N) (slots := M) (C := (pn_i ky).2.1.cls) (b := ad r0) (As := av.map (px_v ad)) (rest := st) (g := F0 m pc la ((av.map (px_v ad)).reverse ++ .ref (ad r0) :: st)) ⟨hx, hb, hml, hown, hts⟩ (hM l D cy ad H.size (.inr (.inr (some r0)) :: av) σ k' hS')
    ⟨callB_of (pn_i ky).2.2.2.2.2 hts (px_good hc) rfl rfl rfl (hts _ hi) (hts _ hlk) ⟨m2, m3, m4⟩ ⟨by show h' + 1 ≤ 2048; omega, by show 8 + ((pn_i ky).2.2.2.1 + 11) + 64 * h' ≤ 84000; omega⟩, hts _ hin, hts _ hse⟩
    ⟨fun a U g mk q => by
        obtain ⟨q0, q1, q2, q3, q4, q5⟩ := q
        exact ⟨q0, q1, q2, va_K.moved (u := U) (U := U.calling g mk a) (Vm.Alike.refl U.vm) q3, q4, px_X_calling q5⟩,
      hrecv,
      fun U hU hW => ⟨rfl, by rw [hU], by rw [hU]; exact hP, va_K.moved hW.alike hK, (hD σ).weaken (fun _ _ _ _ => trivial), px_X_call hXX hS hU hW hA1⟩⟩
    rfl (by simp [hn]) hla rfl (lv_room hsz) hd ⟨by show N + 0 ≤ 600000; exact hNM.1, by show M + 0 ≤ 7302250; exact hNM.2⟩
  exact lx_go hrun hS hA1 kk
/-- the script, and where the law stands in it -/
def lwS (s : State) (b L : Nat) (xs : Nat → Int32) (i : Nat) (la : Array Slot) (ad : Nat → Nat) : Prop := (va_X b L xs s s.heap ∧ b < s.heap.size) ∧ (i + 5 < L ∧ L ≤ 3072) ∧ lv_has la 4 [(3, .int (nI i)), (2, .ref (ad 0)), (1, .ref (ad 100)), (0, .ref b)]
def lxd (pc : Nat) : List Nat → Bool
  | [] => true
  | k :: ks => decide (decode code pc = .ok (.aload_n 0, 1)) && decide (decode code (pc + 1) = .ok (.iload_n 3, 1)) && decide (decode code (pc + 1 + 1) = .ok (.iconst k, 1)) && decide (decode code (pc + 1 + 1 + 1) = .ok (.iadd, 1)) && decide (decode code (pc + 1 + 1 + 1 + 1) = .ok (.iaload, 1)) && lxd (pc + 5) ks
theorem lx_ic : ∀ k : Nat, k ≤ 5 → Int32.ofInt (k : Int) = nI k := by decide
theorem lx_arg (hF : lwF p s m args c D cy ad) {b L i : Nat} {xs : Nat → Int32} (hs : lwS s b L xs i la ad) (hS : va_S (fun q => s.heap.size ≤ q) s.heap H locs) {k : Nat} (hk : k ≤ 5) (hd : lxd pc [k] = true) (hW : W p l e room_1 s m args below meth c H locs N M Q (F0 m (pc + 5) la (.int (xs (i + k)) :: st))) : W p l e room_1 s m args below meth c H locs N M Q (F0 m pc la st) := by
  obtain ⟨⟨hx, hb, hml, hown, hts⟩, -⟩ := hF
  obtain ⟨⟨hX, hbl⟩, ⟨hi, hL⟩, hl⟩ := hs
  simp only [lxd, Bool.and_eq_true, decide_eq_true_eq] at hd
  obtain ⟨⟨⟨⟨⟨d0, d1⟩, d2⟩, d3⟩, d4⟩, -⟩ := hd
  refine lv_aload_n hx hb d0 rfl (lv_at hl 3 rfl) ?_
  refine lv_iload_n hx hb d1 rfl (lv_at hl 0 rfl) ?_
  refine lv_iconst (v := nI k) hx hb d2 (lx_ic k hk) ?_
  refine lv_iadd hx hb d3 ?_
  rw [nI_add]
  refine va_sld (A := fun q => s.heap.size ≤ q) hx hb hX hbl (Nat.not_le.mpr hbl) hS (vp_in_nI (by omega) (by omega)) d4 ?_
  rw [nI_clamp (by omega)]
  exact hW
theorem lx_args (hF : lwF p s m args c D cy ad) {b L i : Nat} {xs : Nat → Int32} (hs : lwS s b L xs i la ad) (hS : va_S (fun q => s.heap.size ≤ q) s.heap H locs) : ∀ (ks : List Nat) (pc : Nat) (st : List Value), lxd pc ks = true → (∀ k ∈ ks, k ≤ 5) → W p l e room_1 s m args below meth c H locs N M Q (F0 m (pc + 5 * ks.length) la ((ks.map fun k => Value.int (xs (i + k))).reverse ++ st)) → W p l e room_1 s m args below meth c H locs N M Q (F0 m pc la st) := by
  intro ks
  induction ks with
  | nil => intro pc st _ _ hW; exact hW
  | cons k ks ih =>
    intro pc st hd hk hW
    have hd2 := hd
    simp only [lxd, Bool.and_eq_true, decide_eq_true_eq] at hd2
    refine lx_arg hF hs hS (k := k) (hk k List.mem_cons_self) (by simp only [lxd, Bool.and_eq_true, decide_eq_true_eq]; exact ⟨hd2.1, trivial⟩) ?_
    refine ih (pc + 5) (.int (xs (i + k)) :: st) hd2.2 (fun q hq => hk q (List.mem_cons_of_mem _ hq)) ?_
    have e1 : pc + 5 + 5 * ks.length = pc + 5 * (k :: ks).length := by rw [List.length_cons]; omega
    rw [e1]
    simpa using hW
/-- a case: both are asked, both answer the same int -/
theorem lx_case (hF : lwF p s m args c D cy ad) {b L i : Nat} {xs : Nat → Int32} (hs : lwS s b L xs i la ad) (hNM : N ≤ 600000 ∧ M ≤ 7302250) (ks : List Nat) (hks : ∀ k ∈ ks, k ≤ 5) {k1 k2 i1 i2 h1 h2 : Nat} {off : Int} {S1 S2 : px_S} (hM1 : px_Ok tT (pn_i k1) h1 S1) (hM2 : px_Ok tT (pn_i k2) h2 S2) (hh : h1 ≤ 1200 ∧ h2 ≤ 1200) (hmv1 : pn_MV.any (fun z => z.1 == k1) = true) (hmv2 : pn_MV.any (fun z => z.1 == k2) = true) (hl1 : Cond.methodLink "NoThreeLaw" i1 (pn_i k1).2.1 ∈ px_ws) (hl2 : Cond.methodLink "NoThreeLaw" i2 (pn_i k2).2.1 ∈ px_ws) (hc1 : (pn_i k1).1 = 12) (hc2 : (pn_i k2).1 = 0) (hn1 : ks.length = (pn_i k1).2.2.2.2.2) (hn2 : ks.length = (pn_i k2).2.2.2.2.2) {σ1 σ2 : px_M} {r : Int32} (e1 : S1 (.inr (.inr (some 100)) :: ks.map fun k => .inl (xs (i + k))) σ (fun q υ => q = some (.inl r) ∧ υ = σ1)) (e2 : S2 (.inr (.inr (some 0)) :: ks.map fun k => .inl (xs (i + k))) σ1 (fun q υ => q = some (.inl r) ∧ υ = σ2)) (d0 : decode code pc = .ok (.aload_n 1, 1)) (d1 : lxd (pc + 1) ks = true) (d2 : decode code (pc + 1 + 5 * ks.length) = .ok (.invokevirtual i1, 3)) (d3 : decode code (pc + 1 + 5 * ks.length + 3) = .ok (.aload_n 2, 1)) (d4 : lxd (pc + 1 + 5 * ks.length + 3 + 1) ks = true) (d5 : decode code (pc + 1 + 5 * ks.length + 3 + 1 + 5 * ks.length) = .ok (.invokevirtual i2, 3)) (d6 : decode code (pc + 1 + 5 * ks.length + 3 + 1 + 5 * ks.length + 3) = .ok (.if_icmp .eq off, 3)) (d7 : ((pc + 1 + 5 * ks.length + 3 + 1 + 5 * ks.length + 3 : Nat) : Int) + off = ((1613 : Nat) : Int)) (hP : va_P D pn_cl (px_w cy ad tT σ) H) (hS : va_S (fun q => s.heap.size ≤ q) s.heap H locs)
    (kk : ∀ (H1 : Heap) (locs1 : List Loc), va_P D pn_cl (px_w cy ad tT σ2) H1 → va_S (fun q => s.heap.size ≤ q) s.heap H1 locs1 → W p l e room_1 s m args below meth c H1 locs1 N M Q (F0 m 1613 la [])) : W p l e room_1 s m args below meth c H locs N M Q (F0 m pc la []) := by
  obtain ⟨⟨hx, hb, -⟩, -⟩ := id hF
  have hl := hs.2.2
  have mp : ∀ ks : List Nat, ((ks.map fun k => (.inl (xs (i + k)) : px_V)).map (px_v ad)) = ks.map fun k => Value.int (xs (i + k)) := fun ks => by simp [px_v]
  refine lv_aload_n hx hb d0 rfl (lv_at hl 2 rfl) ?_
  refine lx_args hF hs hS ks (pc + 1) _ d1 hks ?_
  rw [← mp]
  refine lx_call hF hM1 hmv1 hl1 hh.1 e1 (by rw [hc1]; decide) (by rw [hc1]; exact px_obj_100) (by rw [List.length_map]; exact hn1) (Nat.zero_le _) hl.1 hNM d2 hP hS (fun q υ H1 locs1 hq hP1 hS1 => ?_)
  obtain ⟨rfl, rfl⟩ := hq
  refine lv_aload_n hx hb d3 rfl (lv_at hl 1 rfl) ?_
  refine lx_args hF hs hS1 ks _ _ d4 hks ?_
  rw [← mp]
  refine lx_call hF hM2 hmv2 hl2 hh.2 e2 (by rw [hc2]; decide) (by rw [hc2]; exact px_obj_0) (by rw [List.length_map]; exact hn2) (Nat.le_of_ble_eq_true rfl) hl.1 hNM d5 hP1 hS1 (fun q υ H2 locs2 hq hP2 hS2 => ?_)
  obtain ⟨rfl, rfl⟩ := hq
  exact lv_icmp_eq (tgt := 1613) hx hb d6 d7 (fun _ => kk H2 locs2 hP2 hS2) (fun h => absurd rfl h)
end
