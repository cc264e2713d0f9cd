/-! fields, arrays, returns, calls, a method's entry -/
theorem px_fv_rd (ad : Nat → Nat) (σ : px_M) (r b d : Nat) : px_fv ad σ r b d = px_v ad (px_rd d σ r b) := by
  rcases d with _ | _ | _ | d <;> simp [px_fv, px_rd, px_v]
theorem px_fs_at {ad : Nat → Nat} {σ : px_M} {r b d : Nat} {ks : List Nat} (h : ks[b]? = some d) : (px_fs ad σ r ks)[b]? = some (px_v ad (px_rd d σ r b)) := by
  simp [px_fs, List.getElem?_mapIdx, h, px_fv_rd]
theorem px_fs_set {ad : Nat → Nat} {σ σ' : px_M} {r b d : Nat} {ks : List Nat} {v : Value} (h : ks[b]? = some d) (hb : px_v ad (px_rd d σ' r b) = v) (ho : ∀ j, j ≠ b → σ'.1 r j = σ.1 r j ∧ σ'.2.1 r j = σ.2.1 r j ∧ σ'.2.2 r j = σ.2.2 r j) : (px_fs ad σ r ks).set b v = px_fs ad σ' r ks := by
  apply List.ext_getElem?
  intro j
  rw [List.getElem?_set]
  by_cases hj : b = j
  · subst hj
    have hlt : b < ks.length := (List.getElem?_eq_some_iff.mp h).1
    rw [if_pos rfl, px_fs_at h, hb]
    simp [px_fs, hlt]
  · rw [if_neg hj]
    obtain ⟨o1, o2, o3⟩ := ho j (fun q => hj q.symm)
    simp only [px_fs, List.getElem?_mapIdx]
    cases ks[j]? with
    | none => rfl
    | some d' => simp [px_fv, o1, o2, o3]
theorem px_obj_spec {o : Option (Nat ⊕ (Nat × Nat))} {a : Nat} (h : px_obj o a) : o = some (.inl a) := by
  rcases o with _ | (c | q)
  · exact h.elim
  · exact congrArg (fun z => some (Sum.inl z)) h
  · exact h.elim
theorem px_arr_spec {o : Option (Nat ⊕ (Nat × Nat))} {f : Nat → Nat → Prop} (h : px_arr o f) : ∃ t n, o = some (.inr (t, n)) ∧ f t n := by
  rcases o with _ | (c | ⟨t, n⟩)
  · exact h.elim
  · exact h.elim
  · exact ⟨t, n, rfl, h⟩
section
variable {C : px_C} {i : pn_I} {h : Nat} {k : Option px_V → px_M → Prop} {pc : Nat} {ls : px_Ls} {st : List px_V} {σ : px_M}
theorem px_r_getf (hC : px_ok C i h) {idx a b d r : Nat} (hlk : Cond.fieldLink (pn_own i.1) idx (pn_Tf a b).1 (pn_Tf a b).2.1 (pn_Tf a b).2.2.1 ∈ px_ws) (ha : a < 13) (hdk : (pn_fk a)[b]? = some d) (ho : px_obj (px_lay (px_tb C) r) a) (hd : decode i.2.2.1 pc = .ok (.getfield idx, 3)) (hW : px_W C k (pc + 3) ls (px_rf a d σ r b :: st) σ) : px_W C k pc ls (.inr (.inr (some r)) :: st) σ := by
  obtain ⟨p, l, e, R, s, m, args, below, meth, c, D, cy, ad, tab, A⟩ := C
  obtain ⟨hx, hb, -, -, -, hown, hts, hK, -⟩ := hC
  have hrf : px_rf a d σ r b = px_rd d σ r b := by unfold px_rf; rw [if_neg (by omega)]
  rw [hrf] at hW
  intro H locs la hl hP hS
  obtain ⟨C0, N, hcl, hin, hty, hnm, hfk, -⟩ := pn_cf a ha
  obtain ⟨q0, he, -⟩ := px_w_get (cy := cy) (ad := ad) (σ := σ) (px_obj_spec ho) (by simp [px_xb]; omega)
  have hbN : b < N := by
    have := (List.getElem?_eq_some_iff.mp hdk).1
    rw [hfk] at this
    simpa using this
  exact va_get (D := D) (v := px_v ad (px_rd d σ r b)) hx hb hts hin hown hK hP q0 he hcl b hbN (hts _ hlk) (fun _ h => h) (px_fs_at hdk) hd (hW H locs la hl hP hS)
theorem px_r_putf (hC : px_ok C i h) {idx a b d r : Nat} {x : px_V} {K : px_M → Prop} (hlk : Cond.fieldLink (pn_own i.1) idx (pn_Tf a b).1 (pn_Tf a b).2.1 (pn_Tf a b).2.2.1 ∈ px_ws) (ha : a < 13) (hfin : (pn_Tf a b).2.2.2 = false) (hdk : (pn_fk a)[b]? = some d) (ho : px_obj (px_lay (px_tb C) r) a) (hd : decode i.2.2.1 pc = .ok (.putfield idx, 3)) (hp : px_pt d σ r b x K) (hW : ∀ σ', K σ' → px_W C k (pc + 3) ls st σ') : px_W C k pc ls (x :: .inr (.inr (some r)) :: st) σ := by
  obtain ⟨p, l, e, R, s, m, args, below, meth, c, D, cy, ad, tab, A⟩ := C
  obtain ⟨hx, hb, -, -, -, hown, hts, hK, hD, -, -, hnd, -⟩ := hC
  intro H locs la hl hP hS
  obtain ⟨C0, N, hcl, hin, hty, hnm, hfk, -⟩ := pn_cf a ha
  obtain ⟨q0, he, hq0⟩ := px_w_get (cy := cy) (ad := ad) (σ := σ) (px_obj_spec ho) (by simp [px_xb]; omega)
  have hbN : b < N := by
    have := (List.getElem?_eq_some_iff.mp hdk).1
    rw [hfk] at this
    simpa using this
  have hkd : pn_kt (pn_tf a b) = d := by
    rw [hfk] at hdk
    simp [hbN] at hdk
    exact hdk
  have hlen : b < (px_fs ad σ r (pn_fk a)).length := by simpa [px_fs] using (List.getElem?_eq_some_iff.mp hdk).1
  have go : ∀ (σ' : px_M), K σ' → narrow (pn_tf a b) (px_v ad x) = px_v ad x → fits (pn_tf a b) (px_v ad x) = true → px_v ad (px_rd d σ' r b) = px_v ad x → (∀ j, j ≠ b → σ'.1 r j = σ.1 r j ∧ σ'.2.1 r j = σ.2.1 r j ∧ σ'.2.2 r j = σ.2.2 r j) → (∀ k' e', k' ≠ r → px_e cy ad σ k' e' = px_e cy ad σ' k' e') → W p l e R s m args below meth c H locs 0 0 (MQ below (px_Q k D cy ad tab A) args s 0 0 A) (F0 m pc la ((x :: .inr (.inr (some r)) :: st).map (px_v ad))) := by
    intro σ' hk' h1 h2 h3 h4 h5
    refine va_put (D := D) (v := px_v ad x) (ty := pn_tf a b) hx hb hts hin (pn_tf a) hty hnm hown hK hP (hD σ) hS q0 he hcl b hbN (hts _ hlk) (fun _ h => h) hfin (hty b hbN) h1 h2 hlen hd (fun H1 locs1 hP1 _ hS1 => ?_)
    rw [px_fs_set hdk h3 h4] at hP1
    have hw := px_w_set (cy := cy) (ad := ad) (σ := σ) (σ' := σ') (e := .inl a) hnd hq0 h5
    have hP2 : va_P D pn_cl (px_w cy ad tab σ') H1 := by rw [← hw]; exact hP1
    exact hW σ' hk' H1 locs1 la hl hP2 hS1
  have up1 : ∀ {α : Type} {f : Nat → Nat → α} {v : α} (j : Nat), j ≠ b → px_up f r b v r j = f r j := fun j hj => px_up_n (fun q => hj q.2)
  rcases d with _ | _ | _ | _ | d
  · rcases x with v | v | v
    · have hty0 : pn_tf a b = .int := by revert hkd; cases pn_tf a b <;> simp [pn_kt]
      refine go (px_wi σ r b v) hp (by rw [hty0]; rfl) (by rw [hty0]; rfl) (by simp [px_rd, px_wi, px_up_s]) (fun j hj => ⟨up1 j hj, rfl, rfl⟩) (fun k' e' hk => px_e_wi hk)
    · exact hp.elim
    · exact hp.elim
  · rcases x with v | v | v
    · exact hp.elim
    · have hty0 : pn_tf a b = .long := by revert hkd; cases pn_tf a b <;> simp [pn_kt]
      refine go (px_wl σ r b v) hp (by rw [hty0]; rfl) (by rw [hty0]; rfl) (by simp [px_rd, px_wl, px_up_s]) (fun j hj => ⟨rfl, up1 j hj, rfl⟩) (fun k' e' hk => px_e_wl hk)
    · exact hp.elim
  · rcases x with v | v | v
    · exact hp.elim
    · exact hp.elim
    · have hty0 : (∃ n, pn_tf a b = .object n) ∨ ∃ n, pn_tf a b = .array n := by revert hkd; cases pn_tf a b <;> simp [pn_kt]
      refine go (px_wr σ r b v) hp (by rcases hty0 with ⟨n, q⟩ | ⟨n, q⟩ <;> rw [q] <;> cases v <;> rfl) (by rcases hty0 with ⟨n, q⟩ | ⟨n, q⟩ <;> rw [q] <;> cases v <;> rfl) (by simp [px_rd, px_wr, px_up_s]) (fun j hj => ⟨rfl, rfl, up1 j hj⟩) (fun k' e' hk => px_e_wr hk)
  · rcases x with v | v | v
    · have hty0 : pn_tf a b = .boolean := by revert hkd; cases pn_tf a b <;> simp [pn_kt]
      obtain ⟨h01, hk'⟩ := hp
      refine go (px_wi σ r b v) hk' (by rw [hty0]; rcases h01 with rfl | rfl <;> rfl) (by rw [hty0]; rcases h01 with rfl | rfl <;> rfl) (by simp [px_rd, px_wi, px_up_s]) (fun j hj => ⟨up1 j hj, rfl, rfl⟩) (fun k' e' hk => px_e_wi hk)
    · exact hp.elim
    · exact hp.elim
  · rcases x with v | v | v <;> exact hp.elim
theorem px_ext_T {C : px_C} {i : pn_I} {h : Nat} (hC : px_ok C i h) {r t n : Nat} (ho : px_lay (px_tb C) r = some (.inr (t, n))) (ht : 4 ≤ t) : match C with
    | (_, _, _, _, s, _, _, _, _, _, _, _, ad, _, A) => va_T (if t = 10 then .byte else .int) (ad r) n (fun j => .int (pn_xv r j)) A s s.heap := by
  obtain ⟨p, l, e, R, s, m, args, below, meth, c, D, cy, ad, tab, A⟩ := C
  obtain ⟨-, -, -, -, -, -, -, -, -, -, -, hnd, hXX⟩ := hC
  have h1 := hnd.2 _ (px_lay_mem ho) (by simp [px_xb]; omega)
  exact hXX.2.1 _ h1 t n rfl
theorem px_r_alen (hC : px_ok C i h) {r t n : Nat} (ho : px_lay (px_tb C) r = some (.inr (t, n))) (hd : decode i.2.2.1 pc = .ok (.arraylength, 1)) (hW : px_W C k (pc + 1) ls (.inl (nI n) :: st) σ) : px_W C k pc ls (.inr (.inr (some r)) :: st) σ := by
  obtain ⟨p, l, e, R, s, m, args, below, meth, c, D, cy, ad, tab, A⟩ := C
  have hE : 4 ≤ t → va_T (if t = 10 then .byte else .int) (ad r) n (fun j => .int (pn_xv r j)) A s s.heap := fun ht => px_ext_T hC ho ht
  obtain ⟨hx, hb, -, -, -, hown, hts, hK, -⟩ := hC
  intro H locs la hl hP hS
  by_cases ht : t < 4
  · obtain ⟨q0, he, -⟩ := px_w_get (cy := cy) (ad := ad) (σ := σ) ho (by simp [px_xb]; omega)
    have hty : ∃ ty, (px_tys cy)[t]? = some (cy t, ty) := by
      match t, ht with
      | 0, _ => exact ⟨_, rfl⟩
      | 1, _ => exact ⟨_, rfl⟩
      | 2, _ => exact ⟨_, rfl⟩
      | 3, _ => exact ⟨_, rfl⟩
      | t + 4, q => exact absurd q (by omega)
    obtain ⟨ty, hty⟩ := hty
    exact va_alen (D := D) hx hb hK hP q0 t he hty (v := nI n) rfl hd (hW H locs la hl hP hS)
  · exact va_tlen hx hb (hE (by omega)) hS (v := nI n) rfl hd (hW H locs la hl hP hS)
theorem px_r_iald (hC : px_ok C i h) {r n t : Nat} {x : Int32} (ho : px_lay (px_tb C) r = some (.inr (t, n))) (ht : t = 0 ∨ t = 11) (hin : vp_in x n) (hd : decode i.2.2.1 pc = .ok (.iaload, 1)) (hW : px_W C k (pc + 1) ls (.inl (px_av t σ r x.toNatClampNeg) :: st) σ) : px_W C k pc ls (.inl x :: .inr (.inr (some r)) :: st) σ := by
  obtain ⟨p, l, e, R, s, m, args, below, meth, c, D, cy, ad, tab, A⟩ := C
  have hE : 4 ≤ t → va_T (if t = 10 then .byte else .int) (ad r) n (fun j => .int (pn_xv r j)) A s s.heap := fun ht => px_ext_T hC ho ht
  obtain ⟨hx, hb, -, -, -, hown, hts, hK, -⟩ := hC
  intro H locs la hl hP hS
  rcases ht with rfl | rfl
  · obtain ⟨q0, he, -⟩ := px_w_get (cy := cy) (ad := ad) (σ := σ) ho rfl
    exact va_iald (D := D) hx hb hK hP q0 0 he rfl hin hd (hW H locs la hl hP hS)
  · exact va_ti hx hb (hE (by omega)) hS hin (v := .int (pn_xv r x.toNatClampNeg)) rfl hd (hW H locs la hl hP hS)
theorem px_r_bald (hC : px_ok C i h) {r n t : Nat} {x : Int32} (ho : px_lay (px_tb C) r = some (.inr (t, n))) (ht : t = 1 ∨ t = 2 ∨ t = 10) (hin : vp_in x n) (hd : decode i.2.2.1 pc = .ok (.baload, 1)) (hW : px_W C k (pc + 1) ls (.inl (px_av t σ r x.toNatClampNeg) :: st) σ) : px_W C k pc ls (.inl x :: .inr (.inr (some r)) :: st) σ := by
  obtain ⟨p, l, e, R, s, m, args, below, meth, c, D, cy, ad, tab, A⟩ := C
  have hE : 4 ≤ t → va_T (if t = 10 then .byte else .int) (ad r) n (fun j => .int (pn_xv r j)) A s s.heap := fun ht => px_ext_T hC ho ht
  obtain ⟨hx, hb, -, -, -, hown, hts, hK, -⟩ := hC
  intro H locs la hl hP hS
  rcases ht with rfl | rfl | rfl
  · obtain ⟨q0, he, -⟩ := px_w_get (cy := cy) (ad := ad) (σ := σ) ho rfl
    exact va_bald (D := D) hx hb hK hP q0 1 he rfl hin hd (hW H locs la hl hP hS)
  · obtain ⟨q0, he, -⟩ := px_w_get (cy := cy) (ad := ad) (σ := σ) ho rfl
    exact va_zald (D := D) hx hb hK hP q0 2 he rfl hin hd (hW H locs la hl hP hS)
  · exact va_tb hx hb (hE (by omega)) hS hin (v := .int (pn_xv r x.toNatClampNeg)) rfl hd (hW H locs la hl hP hS)
theorem px_r_getx (hC : px_ok C i h) {idx b d r : Nat} (hlk : ∃ q ∈ pn_FX, Cond.fieldLink (pn_own i.1) idx "java/lang/String" q.2.2.2.2.1 q.2.2.2.2.2 ∈ px_ws ∧ q.2.2.2.1 = b) (ho : px_obj (px_lay (px_tb C) r) 23) (hd : decode i.2.2.1 pc = .ok (.getfield idx, 3)) (hW : px_W C k (pc + 3) ls (px_rf 23 d σ r b :: st) σ) : px_W C k pc ls (.inr (.inr (some r)) :: st) σ := by
  obtain ⟨p, l, e, R, s, m, args, below, meth, c, D, cy, ad, tab, A⟩ := C
  obtain ⟨hx, hb, -, -, -, hown, hts, hK, -, -, -, hnd, hXX⟩ := hC
  have h1 := hnd.2 _ (px_lay_mem (px_obj_spec ho)) rfl
  obtain ⟨j, hj, hr⟩ := px_xt_str _ h1 rfl
  have hr : r = 1000 + j := hr
  subst hr
  obtain ⟨q, hq, hl1, hqb⟩ := hlk
  subst hqb
  have hcase : q = (9135, 23, 9, 0, "value", "[B") ∨ q = (9136, 23, 15, 1, "coder", "B") := by simpa [pn_FX] using hq
  intro H locs la hl hP hS
  rcases hcase with rfl | rfl
  · refine vk_getf hx hb (hXX.1 j hj).2.2 hS hown (hts _ hl1) (fun _ h => h) hd ?_
    have := hW H locs la hl hP hS
    simp only [List.map_cons, px_rf, pn_xf, if_true, px_v, Option.map_some, va_rf] at this
    rw [show 1000 + j + 100 = 1100 + j by omega] at this
    exact this
  · refine vk_getf hx hb (hXX.1 j hj).2.1 hS hown (hts _ hl1) (fun _ h => h) hd ?_
    exact hW H locs la hl hP hS
theorem px_r_gets (hC : px_ok C i h) {idx : Nat} {v : px_V} (hlk : ∃ q ∈ pn_GS, Cond.fieldLink (pn_own i.1) idx q.2.2.2.1 q.2.2.2.2.1 q.2.2.2.2.2.1 ∈ px_ws ∧ q.2.2.2.2.2.2 = v) (hd : decode i.2.2.1 pc = .ok (.getstatic idx, 3)) (hW : px_W C k (pc + 3) ls (v :: st) σ) : px_W C k pc ls st σ := by
  obtain ⟨p, l, e, R, s, m, args, below, meth, c, D, cy, ad, tab, A⟩ := C
  obtain ⟨hx, hb, -, -, -, hown, hts, hK, -, -, -, hnd, hXX⟩ := hC
  obtain ⟨q, hq, hl1, rfl⟩ := hlk
  intro H locs la hl hP hS
  exact va_gets hx hb (hXX.2.2.2.1 q hq) hS hown (hts _ hl1) (fun _ h => h) hd (hW H locs la hl hP hS)
theorem px_r_getq (hC : px_ok C i h) {idx : Nat} (h1 : pn_OQ.2.1 = i.1) (h2 : pn_OQ.2.2 = idx) (hg : Cond.fieldLink (pn_own pn_OQ.2.1) pn_OQ.2.2 "jdk/internal/util/Preconditions" "SIOOBE_FORMATTER" "Ljava/util/function/BiFunction;" ∈ px_ws) (hd : decode i.2.2.1 pc = .ok (.getstatic idx, 3)) (hW : ∀ o : Option Nat, px_W C k (pc + 3) ls (.inr (.inr o) :: st) σ) : px_W C k pc ls st σ := by
  obtain ⟨p, l, e, R, s, m, args, below, meth, c, D, cy, ad, tab, A⟩ := C
  obtain ⟨hx, hb, -, -, -, hown, hts, hK, -, -, -, hnd, hXX⟩ := hC
  rw [h1, h2] at hg
  obtain ⟨o, ho⟩ := hXX.2.2.2.2
  intro H locs la hl hP hS
  exact va_gets hx hb ho hS hown (hts _ hg) (fun _ h => h) hd (hW o H locs la hl hP hS)
theorem px_r_ldcs (hC : px_ok C i h) {idx : Nat} {v : px_V} (hlk : ∃ q ∈ pn_KS, q.1 = i.1 ∧ q.2.1 = idx ∧ v = .inr (.inr (some (1000 + q.2.2.2)))) (hd : decode i.2.2.1 pc = .ok (.ldc idx, 2)) (hW : px_W C k (pc + 2) ls (v :: st) σ) : px_W C k pc ls st σ := by
  obtain ⟨p, l, e, R, s, m, args, below, meth, c, D, cy, ad, tab, A⟩ := C
  obtain ⟨hx, hb, -, -, -, hown, hts, hK, -, -, -, hnd, hXX⟩ := hC
  obtain ⟨q, hq, h1, h2, rfl⟩ := hlk
  intro H locs la hl hP hS
  have hR := hXX.2.2.1 q hq
  rw [h1, h2] at hR
  exact va_ldcS hx hb hown hR hd (hW H locs la hl hP hS)
theorem px_r_lald (hC : px_ok C i h) {r n : Nat} {x : Int32} (ho : px_lay (px_tb C) r = some (.inr (3, n))) (hin : vp_in x n) (hd : decode i.2.2.1 pc = .ok (.laload, 1)) (hW : px_W C k (pc + 1) ls (.inr (.inl (σ.2.1 r x.toNatClampNeg)) :: st) σ) : px_W C k pc ls (.inl x :: .inr (.inr (some r)) :: st) σ := by
  obtain ⟨p, l, e, R, s, m, args, below, meth, c, D, cy, ad, tab, A⟩ := C
  obtain ⟨hx, hb, -, -, -, hown, hts, hK, -⟩ := hC
  intro H locs la hl hP hS
  obtain ⟨q0, he, -⟩ := px_w_get (cy := cy) (ad := ad) (σ := σ) ho (by first | rfl | (simp [px_xb]; omega))
  exact va_lald (D := D) hx hb hK hP q0 3 he rfl hin hd (hW H locs la hl hP hS)
theorem px_upd {f : Nat → Nat → Int32} {r j : Nat} {x : Int32} : upd (f r) j x = px_up f r j x r := by
  funext z
  by_cases hz : z = j <;> simp [upd, px_up, hz]
theorem px_updL {f : Nat → Nat → Int64} {r j : Nat} {x : Int64} : vp_updL (f r) j x = px_up f r j x r := by
  funext z
  by_cases hz : z = j <;> simp [vp_updL, px_up, hz]
theorem px_r_iast (hC : px_ok C i h) {r n : Nat} {x y : Int32} (ho : px_lay (px_tb C) r = some (.inr (0, n))) (hin : vp_in x n) (hd : decode i.2.2.1 pc = .ok (.iastore, 1)) (hW : px_W C k (pc + 1) ls st (px_wi σ r x.toNatClampNeg y)) : px_W C k pc ls (.inl y :: .inl x :: .inr (.inr (some r)) :: st) σ := by
  obtain ⟨p, l, e, R, s, m, args, below, meth, c, D, cy, ad, tab, A⟩ := C
  obtain ⟨hx, hb, -, -, -, hown, hts, hK, hD, -, -, hnd, -⟩ := hC
  intro H locs la hl hP hS
  obtain ⟨q0, he, hq0⟩ := px_w_get (cy := cy) (ad := ad) (σ := σ) ho (by first | rfl | (simp [px_xb]; omega))
  refine va_iast (D := D) hx hb hK hP (hD σ) hS q0 0 he rfl hin hd (fun H1 locs1 hP1 _ hS1 => ?_)
  have hw := px_w_set (cy := cy) (ad := ad) (σ := σ) (σ' := px_wi σ r x.toNatClampNeg y) (e := .inr (0, n)) hnd hq0 (fun k' e' hk => px_e_wi hk)
  refine hW H1 locs1 la hl ?_ hS1
  rw [← hw]
  rw [px_upd] at hP1
  exact hP1
theorem px_r_bast (hC : px_ok C i h) {r n t : Nat} {x y : Int32} (ho : px_lay (px_tb C) r = some (.inr (t, n))) (ht : (t = 1 ∧ y.toInt8.toInt32 = y) ∨ (t = 2 ∧ (y = 0 ∨ y = 1))) (hin : vp_in x n) (hd : decode i.2.2.1 pc = .ok (.bastore, 1)) (hW : px_W C k (pc + 1) ls st (px_wi σ r x.toNatClampNeg y)) : px_W C k pc ls (.inl y :: .inl x :: .inr (.inr (some r)) :: st) σ := by
  obtain ⟨p, l, e, R, s, m, args, below, meth, c, D, cy, ad, tab, A⟩ := C
  obtain ⟨hx, hb, -, -, -, hown, hts, hK, hD, -, -, hnd, -⟩ := hC
  intro H locs la hl hP hS
  obtain ⟨q0, he, hq0⟩ := px_w_get (cy := cy) (ad := ad) (σ := σ) ho (by first | rfl | (simp [px_xb]; omega))
  have hw := px_w_set (cy := cy) (ad := ad) (σ := σ) (σ' := px_wi σ r x.toNatClampNeg y) (e := .inr (t, n)) hnd hq0 (fun k' e' hk => px_e_wi hk)
  rcases ht with ⟨rfl, hy⟩ | ⟨rfl, hy⟩
  · refine va_bast (D := D) hx hb hK hP (hD σ) hS q0 1 he rfl hin hd (fun H1 locs1 hP1 _ hS1 => ?_)
    refine hW H1 locs1 la hl ?_ hS1
    rw [← hw]
    rw [vp_nar_byte, hy, px_upd] at hP1
    exact hP1
  · refine va_zast (D := D) hx hb hK hP (hD σ) hS q0 2 he rfl hin hd (fun H1 locs1 hP1 _ hS1 => ?_)
    refine hW H1 locs1 la hl ?_ hS1
    rw [← hw]
    have hz : vp_nar .boolean y = y := by rcases hy with rfl | rfl <;> rfl
    rw [hz, px_upd] at hP1
    exact hP1
theorem px_r_last (hC : px_ok C i h) {r n : Nat} {x : Int32} {y : Int64} (ho : px_lay (px_tb C) r = some (.inr (3, n))) (hin : vp_in x n) (hd : decode i.2.2.1 pc = .ok (.lastore, 1)) (hW : px_W C k (pc + 1) ls st (px_wl σ r x.toNatClampNeg y)) : px_W C k pc ls (.inr (.inl y) :: .inl x :: .inr (.inr (some r)) :: st) σ := by
  obtain ⟨p, l, e, R, s, m, args, below, meth, c, D, cy, ad, tab, A⟩ := C
  obtain ⟨hx, hb, -, -, -, hown, hts, hK, hD, -, -, hnd, -⟩ := hC
  intro H locs la hl hP hS
  obtain ⟨q0, he, hq0⟩ := px_w_get (cy := cy) (ad := ad) (σ := σ) ho (by first | rfl | (simp [px_xb]; omega))
  refine va_last (D := D) hx hb hK hP (hD σ) hS q0 3 he rfl hin hd (fun H1 locs1 hP1 _ hS1 => ?_)
  have hw := px_w_set (cy := cy) (ad := ad) (σ := σ) (σ' := px_wl σ r x.toNatClampNeg y) (e := .inr (3, n)) hnd hq0 (fun k' e' hk => px_e_wl hk)
  refine hW H1 locs1 la hl ?_ hS1
  rw [← hw]
  rw [px_updL] at hP1
  exact hP1
theorem px_r_iret (hC : px_ok C i h) {x : Int32} (hr : px_rok i.2.2.2.2.1 x) (hk : k (some (.inl x)) σ) (hd : decode i.2.2.1 pc = .ok (.ireturn, 1)) : px_W C k pc ls [.inl x] σ := by
  obtain ⟨p, l, e, R, s, m, args, below, meth, c, D, cy, ad, tab, A⟩ := C
  obtain ⟨hx, hb, -, hret, hlocks, -⟩ := hC
  intro H locs la hl hP hS
  have hq : ∀ t : State, t.heap = H → s.WarmedH t.vm → px_Q k D cy ad tab A args s (.returned (some (.int x))) t := fun t ht _ => ⟨⟨some (.inl x), σ, rfl, hk, by rw [ht]; exact hP⟩, hS.F ht⟩
  generalize i.2.2.2.2.1 = rt at hr hret
  rcases rt with _ | rt
  · exact hr.elim
  · have hn : narrow rt (.int x) = .int x := by
      cases rt <;> first | rfl | exact hr | exact hr.elim | (rcases hr with rfl | rfl <;> rfl)
    exact W.zret hx hb hret hn hq hS.2.2 hd hlocks
theorem px_r_lret (hC : px_ok C i h) {x : Int64} (hr : i.2.2.2.2.1 = some .long) (hk : k (some (.inr (.inl x))) σ) (hd : decode i.2.2.1 pc = .ok (.lreturn, 1)) : px_W C k pc ls [.inr (.inl x)] σ := by
  obtain ⟨p, l, e, R, s, m, args, below, meth, c, D, cy, ad, tab, A⟩ := C
  obtain ⟨hx, hb, -, hret, hlocks, -⟩ := hC
  intro H locs la hl hP hS
  exact W.lret hx hb (hret.trans hr) (fun t ht _ => ⟨⟨some (.inr (.inl x)), σ, rfl, hk, by rw [ht]; exact hP⟩, hS.F ht⟩) hS.2.2 hd hlocks
theorem px_r_aret (hC : px_ok C i h) {x : Option Nat} (hr : px_rq i.2.2.2.2.1) (hk : k (some (.inr (.inr x))) σ) (hd : decode i.2.2.1 pc = .ok (.areturn, 1)) : px_W C k pc ls [.inr (.inr x)] σ := by
  obtain ⟨p, l, e, R, s, m, args, below, meth, c, D, cy, ad, tab, A⟩ := C
  obtain ⟨hx, hb, -, hret, hlocks, -⟩ := hC
  intro H locs la hl hP hS
  have hq : ∀ t : State, t.heap = H → s.WarmedH t.vm → px_Q k D cy ad tab A args s (.returned (some (va_rf (x.map ad)))) t := fun t ht _ => ⟨⟨some (.inr (.inr x)), σ, rfl, hk, by rw [ht]; exact hP⟩, hS.F ht⟩
  have hv : va_rf (x.map ad) = .null ∨ ∃ a, va_rf (x.map ad) = .ref a := by
    cases x with
    | none => exact Or.inl rfl
    | some a => exact Or.inr ⟨ad a, rfl⟩
  generalize i.2.2.2.2.1 = rt at hr hret
  have ho : ∃ c, rt = some (.object c) := by
    unfold px_rq at hr
    split at hr
    · exact ⟨_, rfl⟩
    · exact hr.elim
  obtain ⟨cn, rfl⟩ := ho
  exact W.aret hx hb hret (Or.inl ⟨cn, rfl⟩) hv hq hS.2.2 hd hlocks
theorem px_r_vret (hC : px_ok C i h) (hr : i.2.2.2.2.1 = none) (hk : k none σ) (hd : decode i.2.2.1 pc = .ok (.return_, 1)) : px_W C k pc ls [] σ := by
  obtain ⟨p, l, e, R, s, m, args, below, meth, c, D, cy, ad, tab, A⟩ := C
  obtain ⟨hx, hb, -, hret, hlocks, -⟩ := hC
  intro H locs la hl hP hS
  exact W.vret hx hb (hret.trans hr) (fun t ht _ => ⟨⟨none, σ, rfl, hk, by rw [ht]; exact hP⟩, hS.F ht⟩) hS.2.2 hd hlocks
end
