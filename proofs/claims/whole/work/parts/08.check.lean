/-! the check of a stretch of code, and its soundness -/
def px_fl (own idx a b : Nat) : Bool := pn_FL.any (fun z => z.2.1 == own && z.2.2.1 == idx && z.2.2.2.1 == a && z.2.2.2.2 == b)
def px_mlk (own idx a : Nat) : Bool := pn_ML.any (fun z => z.2.1 == own && z.2.2.1 == idx && z.2.2.2 == a)
def px_ck (own pc : Nat) (i : Instr) (len a b d : Nat) (v : px_V) : Bool := match i with
  | .iconst n => len == 1 && decide (v = .inl (Int32.ofInt n))
  | .bipush n => len == 2 && decide (v = .inl (Int8.ofInt n).toInt32)
  | .sipush n => len == 3 && decide (v = .inl (Int16.ofInt n).toInt32)
  | .lconst n => len == 1 && decide (v = .inr (.inl (Int64.ofNat n)))
  | .ldc n => len == 2 && (pn_KI.any (fun z => z.2.1 == own && z.2.2.1 == n && decide (v = .inl z.2.2.2)) || pn_KS.any (fun z => z.1 == own && z.2.1 == n && decide (v = .inr (.inr (some (1000 + z.2.2.2))))))
  | .getstatic n => len == 3 && (if d = 1 then pn_OQ.2.1 == own && pn_OQ.2.2 == n else pn_GS.any (fun z => z.2.1 == own && z.2.2.1 == n && decide (z.2.2.2.2.2.2 = v)))
  | .ldc_w n => len == 3 && pn_KI.any (fun z => z.2.1 == own && z.2.2.1 == n && decide (v = .inl z.2.2.2))
  | .ldc2_w n => len == 3 && pn_KL.any (fun z => z.2.1 == own && z.2.2.1 == n && decide (v = .inr (.inl z.2.2.2)))
  | .iload n => len == 2 && a == n
  | .iload_n n => len == 1 && a == n.val
  | .lload n => len == 2 && a == n
  | .lload_n n => len == 1 && a == n.val
  | .aload n => len == 2 && a == n
  | .aload_n n => len == 1 && a == n.val
  | .istore n => len == 2 && a == n
  | .istore_n n => len == 1 && a == n.val
  | .lstore n => len == 2 && a == n
  | .lstore_n n => len == 1 && a == n.val
  | .astore n => len == 2 && a == n
  | .astore_n n => len == 1 && a == n.val
  | .iinc n x => len == 3 && a == n && decide (v = .inl (Int32.ofInt x))
  | .tableswitch d lo hi offs => px_tck pc d lo hi offs (pn_SW a)
  | .lookupswitch d ps => px_kck pc d ps (pn_SW a)
  | .goto x => len == 3 && decide ((pc : Int) + x = (a : Int))
  | .ifCond _ x => len == 3 && decide ((pc : Int) + x = (a : Int))
  | .if_icmp _ x => len == 3 && decide ((pc : Int) + x = (a : Int))
  | .getfield n => len == 3 && ((px_fl own n a b && (pn_fk a)[b]? == some d) || (a == 23 && pn_FX.any (fun z => z.2.1 == own && z.2.2.1 == n && z.2.2.2.1 == b)))
  | .putfield n => len == 3 && px_fl own n a b && (pn_fk a)[b]? == some d && !(pn_Tf a b).2.2.2
  | .invokevirtual n => len == 3 && px_mlk own n a && pn_MV.any (fun z => z.1 == a) && b == (pn_i a).2.2.2.2.2 + 1 && d == (pn_i a).1 && (decide (d < 13) || d == 23)
  | .invokestatic n => len == 3 && px_mlk own n a && pn_MS.any (fun z => z.1 == a) && b == (pn_i a).2.2.2.2.2 && (d == 0 || (d == a - 19999 && decide (20000 ≤ a) && decide (a < 20004)))
  | _ => len == 1
def px_cks (I : pn_I) (e : Nat) : Nat → List px_E → Bool
  | pc, [] => pc == e
  | pc, (q, i, len, a, b, d, v) :: cs => q == pc && decide (decode I.2.2.1 q = .ok (i, len)) && px_ck I.1 q i len a b d v && px_cks I e (q + len) cs
theorem px_gw {p : Nat} {w : Cond} (h : pn_at p = some w) (hg : goodWord w = true) : w ∈ px_ws := List.mem_filter.mpr ⟨pn_at_in h, hg⟩
theorem px_fl_spec {own idx a b : Nat} (h : px_fl own idx a b = true) : Cond.fieldLink (pn_own own) idx (pn_Tf a b).1 (pn_Tf a b).2.1 (pn_Tf a b).2.2.1 ∈ px_ws ∧ a < 13 := by
  obtain ⟨⟨p, q1, q2, q3, q4⟩, hz, hq⟩ := List.any_eq_true.mp h
  simp only [Bool.and_eq_true, beq_iff_eq] at hq
  obtain ⟨⟨⟨rfl, rfl⟩, rfl⟩, rfl⟩ := hq
  have := pn_FL_ok _ hz
  exact ⟨px_gw this.1 rfl, this.2⟩
theorem px_mlk_spec {own idx a : Nat} (h : px_mlk own idx a = true) : Cond.methodLink (pn_own own) idx (pn_i a).2.1 ∈ px_ws := by
  obtain ⟨⟨p, q1, q2, q3⟩, hz, hq⟩ := List.any_eq_true.mp h
  simp only [Bool.and_eq_true, beq_iff_eq] at hq
  obtain ⟨⟨rfl, rfl⟩, rfl⟩ := hq
  exact px_gw (pn_ML_ok _ hz) rfl
theorem px_ms_spec {a : Nat} (h : pn_MS.any (fun z => z.1 == a) = true) : Cond.code (pn_i a).2.1 (pn_i a).2.2.1 (pn_i a).2.2.2.1 (pn_i a).2.2.2.2.1 ∈ px_ws ∧ Cond.initialized (pn_i a).2.1.cls ∈ px_ws ∧ Cond.static (pn_i a).2.1 ∈ px_ws ∧ pn_mok (pn_i a) = true := by
  obtain ⟨⟨q, p1, p2, p3⟩, hz, hq⟩ := List.any_eq_true.mp h
  simp only [beq_iff_eq] at hq
  subst hq
  have h1 := pn_MS_ok _ hz
  exact ⟨px_gw (pn_MS_code _ hz) rfl, px_gw h1.1.1 rfl, px_gw h1.1.2 rfl, h1.2⟩
theorem px_mv_spec {a : Nat} (h : pn_MV.any (fun z => z.1 == a) = true) : Cond.code (pn_i a).2.1 (pn_i a).2.2.1 (pn_i a).2.2.2.1 (pn_i a).2.2.2.2.1 ∈ px_ws ∧ Cond.initialized (pn_i a).2.1.cls ∈ px_ws ∧ Cond.instanceMethod (pn_i a).2.1 ∈ px_ws ∧ Cond.selects (pn_i a).2.1.cls (pn_i a).2.1 (pn_i a).2.1 ∈ px_ws ∧ pn_mok (pn_i a) = true := by
  obtain ⟨⟨q, p1, p2, p3, p4⟩, hz, hq⟩ := List.any_eq_true.mp h
  simp only [beq_iff_eq] at hq
  subst hq
  have h1 := pn_MV_ok _ hz
  exact ⟨px_gw (pn_MV_code _ hz) rfl, px_gw h1.1.1 rfl, px_gw h1.1.2.1 rfl, px_gw h1.1.2.2 rfl, h1.2⟩
theorem px_i1_spec {st : List px_V} {f : Int32 → List px_V → Prop} (h : px_i1 st f) : ∃ x s, st = .inl x :: s ∧ f x s := by
  unfold px_i1 at h
  split at h
  · exact ⟨_, _, rfl, h⟩
  · exact h.elim
theorem px_l1_spec {st : List px_V} {f : Int64 → List px_V → Prop} (h : px_l1 st f) : ∃ x s, st = .inr (.inl x) :: s ∧ f x s := by
  unfold px_l1 at h
  split at h
  · exact ⟨_, _, rfl, h⟩
  · exact h.elim
theorem px_r1_spec {st : List px_V} {f : Nat → List px_V → Prop} (h : px_r1 st f) : ∃ x s, st = .inr (.inr (some x)) :: s ∧ f x s := by
  unfold px_r1 at h
  split at h
  · exact ⟨_, _, rfl, h⟩
  · exact h.elim
theorem px_q1_spec {st : List px_V} {f : Option Nat → List px_V → Prop} (h : px_q1 st f) : ∃ x s, st = .inr (.inr x) :: s ∧ f x s := by
  unfold px_q1 at h
  split at h
  · exact ⟨_, _, rfl, h⟩
  · exact h.elim
theorem px_d0_spec {st : List px_V} {f : px_V → List px_V → Prop} (h : px_d0 st f) : ∃ x s, st = x :: s ∧ f x s := by
  unfold px_d0 at h
  split at h
  · exact ⟨_, _, rfl, h⟩
  · exact h.elim
theorem px_i2_spec {st : List px_V} {f : Int32 → Int32 → List px_V → Prop} (h : px_i2 st f) : ∃ y x s, st = .inl y :: .inl x :: s ∧ f y x s := by
  unfold px_i2 at h
  split at h
  · exact ⟨_, _, _, rfl, h⟩
  · exact h.elim
theorem px_l2_spec {st : List px_V} {f : Int64 → Int64 → List px_V → Prop} (h : px_l2 st f) : ∃ y x s, st = .inr (.inl y) :: .inr (.inl x) :: s ∧ f y x s := by
  unfold px_l2 at h
  split at h
  · exact ⟨_, _, _, rfl, h⟩
  · exact h.elim
theorem px_il_spec {st : List px_V} {f : Int32 → Int64 → List px_V → Prop} (h : px_il st f) : ∃ y x s, st = .inl y :: .inr (.inl x) :: s ∧ f y x s := by
  unfold px_il at h
  split at h
  · exact ⟨_, _, _, rfl, h⟩
  · exact h.elim
theorem px_d1_spec {st : List px_V} {f : px_V → List px_V → Prop} (h : px_d1 st f) : ∃ x s, st = x :: s ∧ ¬ px_isl x ∧ f x s := by
  unfold px_d1 at h
  split at h
  · exact ⟨_, _, rfl, (by rintro ⟨z, hz⟩; cases hz), h⟩
  · exact ⟨_, _, rfl, (by rintro ⟨z, hz⟩; cases hz), h⟩
  · exact h.elim
theorem px_d2_spec {st : List px_V} {f : List px_V → Prop} (h : px_d2 st f) : (∃ x s, st = .inr (.inl x) :: s ∧ f (.inr (.inl x) :: .inr (.inl x) :: s)) ∨ ∃ x y s, st = x :: y :: s ∧ ¬ px_isl x ∧ ¬ px_isl y ∧ f (x :: y :: x :: y :: s) := by
  unfold px_d2 at h
  split at h
  · exact Or.inl ⟨_, _, rfl, h⟩
  · exact Or.inr ⟨_, _, _, rfl, (by rintro ⟨z, hz⟩; cases hz), (by rintro ⟨z, hz⟩; cases hz), h⟩
  · exact Or.inr ⟨_, _, _, rfl, (by rintro ⟨z, hz⟩; cases hz), (by rintro ⟨z, hz⟩; cases hz), h⟩
  · exact h.elim
theorem px_pop_spec : ∀ {n : Nat} {st acc : List px_V} {f : List px_V → List px_V → Prop}, px_pop n st acc f → ∃ av s, st = av.reverse ++ s ∧ av.length = n ∧ f (av ++ acc) s := by
  intro n
  induction n with
  | zero => intro st acc f h; exact ⟨[], st, rfl, rfl, h⟩
  | succ n ih =>
    intro st acc f h
    cases st with
    | nil => exact h.elim
    | cons x st =>
      obtain ⟨av, s, h1, h2, h3⟩ := ih (show px_pop n st (x :: acc) f from h)
      refine ⟨av ++ [x], s, by simp [h1], by simp [h2], by simpa using h3⟩
theorem px_sp_spec : ∀ {sp : List (Nat × px_S)} {a : Nat} {av : List px_V} {σ : px_M} {K : Option px_V → px_M → Prop}, px_sp sp a av σ K → ∃ S, (a, S) ∈ sp ∧ S av σ K := by
  intro sp
  induction sp with
  | nil => intro a av σ K h; exact h.elim
  | cons q sp ih =>
    intro a av σ K h
    obtain ⟨n, S⟩ := q
    by_cases hn : n = a
    · subst hn
      exact ⟨S, List.mem_cons_self, by simpa [px_sp] using h⟩
    · obtain ⟨S', h1, h2⟩ := ih (show px_sp sp a av σ K by simpa [px_sp, hn] using h)
      exact ⟨S', List.mem_cons_of_mem _ h1, h2⟩
theorem px_rv_spec {tab : px_T} {d : Nat} {av : List px_V} (h : px_rv tab d av) : ∃ r av', av = .inr (.inr (some r)) :: av' ∧ px_obj (px_lay tab r) d := by
  unfold px_rv at h
  split at h
  · exact ⟨_, _, rfl, h⟩
  · exact h.elim
set_option maxHeartbeats 4000000 in
/-- what the small machine says of a stretch of code holds -/
theorem px_sound {C : px_C} {I : pn_I} {h h' e : Nat} {k : Option px_V → px_M → Prop} {J : px_J} {sp : List (Nat × px_S)} (hC : px_ok C I h) (hJ : ∀ pc ls st σ, J pc ls st σ → px_W C k pc ls st σ) (hsp : ∀ q ∈ sp, px_Ok (px_tb C) (pn_i q.1) h' q.2) (hh : h' + 1 ≤ h) : ∀ (cs : List px_E) (pc : Nat) (ls : px_Ls) (st : List px_V) (σ : px_M), px_cks I e pc cs = true → px_vc (px_tb C) J sp I.2.2.2.1 I.2.2.2.2.1 k e cs ls st σ → px_W C k pc ls st σ := by
  intro cs
  induction cs with
  | nil =>
    intro pc ls st σ hck hv
    have : pc = e := by simpa [px_cks] using hck
    subst this
    exact hJ _ _ _ _ hv
  | cons q cs ih =>
    intro pc ls st σ hck hv
    obtain ⟨q, i, len, a, b, d, v⟩ := q
    simp only [px_cks, Bool.and_eq_true, beq_iff_eq, decide_eq_true_eq] at hck
    obtain ⟨⟨⟨rfl, hd⟩, hk1⟩, hk2⟩ := hck
    have go : ∀ ls st σ, px_vc (px_tb C) J sp I.2.2.2.1 I.2.2.2.2.1 k e cs ls st σ → px_W C k (q + len) ls st σ := fun ls st σ hz => ih (q + len) ls st σ hk2 hz
    cases i
    case iconst n =>
      simp only [px_ck, Bool.and_eq_true, beq_iff_eq, decide_eq_true_eq] at hk1
      obtain ⟨rfl, rfl⟩ := hk1
      exact px_r_iconst hC hd rfl (go _ _ _ hv)
    case bipush n =>
      simp only [px_ck, Bool.and_eq_true, beq_iff_eq, decide_eq_true_eq] at hk1
      obtain ⟨rfl, rfl⟩ := hk1
      exact px_r_bipush hC hd rfl (go _ _ _ hv)
    case sipush n =>
      simp only [px_ck, Bool.and_eq_true, beq_iff_eq, decide_eq_true_eq] at hk1
      obtain ⟨rfl, rfl⟩ := hk1
      exact px_r_sipush hC hd rfl (go _ _ _ hv)
    case lconst n =>
      simp only [px_ck, Bool.and_eq_true, beq_iff_eq, decide_eq_true_eq] at hk1
      obtain ⟨rfl, rfl⟩ := hk1
      exact px_r_lconst hC hd rfl (go _ _ _ hv)
    case ldc n =>
      simp only [px_ck, Bool.and_eq_true, Bool.or_eq_true, beq_iff_eq] at hk1
      obtain ⟨rfl, hz0⟩ := hk1
      rcases hz0 with hz0 | hz0
      · obtain ⟨⟨p0, z1, z2, z3⟩, hz, hq⟩ := List.any_eq_true.mp hz0
        clear hz0
        simp only [Bool.and_eq_true, beq_iff_eq, decide_eq_true_eq] at hq
        obtain ⟨⟨rfl, rfl⟩, rfl⟩ := hq
        have hz2 := pn_KI_ok _ hz
        exact px_r_ldc hC (px_gw hz2 rfl) hd (go _ _ _ hv)
      · obtain ⟨z, hz, hq⟩ := List.any_eq_true.mp hz0
        simp only [Bool.and_eq_true, beq_iff_eq, decide_eq_true_eq] at hq
        exact px_r_ldcs hC ⟨z, hz, hq.1.1, hq.1.2, hq.2⟩ hd (go _ _ _ hv)
    case getstatic n =>
      simp only [px_ck, Bool.and_eq_true, beq_iff_eq] at hk1
      obtain ⟨rfl, hz0⟩ := hk1
      simp only [px_vc, px_ex] at hv
      by_cases hd1 : d = 1
      · rw [if_pos hd1] at hz0 hv
        simp only [Bool.and_eq_true, beq_iff_eq] at hz0
        exact px_r_getq hC hz0.1 hz0.2 (px_gw pn_OQ_ok rfl) hd (fun o => go _ _ _ (hv o))
      · rw [if_neg hd1] at hz0 hv
        obtain ⟨z, hz, hq⟩ := List.any_eq_true.mp hz0
        simp only [Bool.and_eq_true, beq_iff_eq, decide_eq_true_eq] at hq
        obtain ⟨⟨q1, q2⟩, q3⟩ := hq
        have hz2 := px_gw (pn_GS_ok z hz) rfl
        rw [q1, q2] at hz2
        exact px_r_gets hC ⟨z, hz, hz2, q3⟩ hd (go _ _ _ hv)
    case ldc_w n =>
      simp only [px_ck, Bool.and_eq_true, beq_iff_eq] at hk1
      obtain ⟨rfl, hz0⟩ := hk1
      obtain ⟨⟨p0, z1, z2, z3⟩, hz, hq⟩ := List.any_eq_true.mp hz0
      clear hz0
      simp only [Bool.and_eq_true, beq_iff_eq, decide_eq_true_eq] at hq
      obtain ⟨⟨rfl, rfl⟩, rfl⟩ := hq
      have hz2 := pn_KI_ok _ hz
      exact px_r_ldcw hC (px_gw hz2 rfl) hd (go _ _ _ hv)
    case ldc2_w n =>
      simp only [px_ck, Bool.and_eq_true, beq_iff_eq] at hk1
      obtain ⟨rfl, hz0⟩ := hk1
      obtain ⟨⟨p0, z1, z2, z3⟩, hz, hq⟩ := List.any_eq_true.mp hz0
      clear hz0
      simp only [Bool.and_eq_true, beq_iff_eq, decide_eq_true_eq] at hq
      obtain ⟨⟨rfl, rfl⟩, rfl⟩ := hq
      have hz2 := pn_KL_ok _ hz
      exact px_r_ldc2 hC (px_gw hz2 rfl) hd (go _ _ _ hv)
    case iload n =>
      simp only [px_ck, Bool.and_eq_true, beq_iff_eq, decide_eq_true_eq] at hk1
      obtain ⟨rfl, rfl⟩ := hk1
      obtain ⟨x, hx, hv⟩ := px_gi_spec hv
      exact px_r_iload hC hx (Or.inr ⟨hd, rfl⟩) (go _ _ _ hv)
    case iload_n n =>
      simp only [px_ck, Bool.and_eq_true, beq_iff_eq, decide_eq_true_eq] at hk1
      obtain ⟨rfl, rfl⟩ := hk1
      obtain ⟨x, hx, hv⟩ := px_gi_spec hv
      exact px_r_iload hC hx (Or.inl ⟨n, rfl, hd, rfl⟩) (go _ _ _ hv)
    case lload n =>
      simp only [px_ck, Bool.and_eq_true, beq_iff_eq, decide_eq_true_eq] at hk1
      obtain ⟨rfl, rfl⟩ := hk1
      obtain ⟨x, hx, hv⟩ := px_gl_spec hv
      exact px_r_lload hC hx (Or.inr ⟨hd, rfl⟩) (go _ _ _ hv)
    case lload_n n =>
      simp only [px_ck, Bool.and_eq_true, beq_iff_eq, decide_eq_true_eq] at hk1
      obtain ⟨rfl, rfl⟩ := hk1
      obtain ⟨x, hx, hv⟩ := px_gl_spec hv
      exact px_r_lload hC hx (Or.inl ⟨n, rfl, hd, rfl⟩) (go _ _ _ hv)
    case aload n =>
      simp only [px_ck, Bool.and_eq_true, beq_iff_eq, decide_eq_true_eq] at hk1
      obtain ⟨rfl, rfl⟩ := hk1
      obtain ⟨x, hx, hv⟩ := px_gr_spec hv
      exact px_r_aload hC hx (Or.inr ⟨hd, rfl⟩) (go _ _ _ hv)
    case aload_n n =>
      simp only [px_ck, Bool.and_eq_true, beq_iff_eq, decide_eq_true_eq] at hk1
      obtain ⟨rfl, rfl⟩ := hk1
      obtain ⟨x, hx, hv⟩ := px_gr_spec hv
      exact px_r_aload hC hx (Or.inl ⟨n, rfl, hd, rfl⟩) (go _ _ _ hv)
    case istore n =>
      simp only [px_ck, Bool.and_eq_true, beq_iff_eq, decide_eq_true_eq] at hk1
      obtain ⟨rfl, rfl⟩ := hk1
      obtain ⟨x, s, rfl, hv⟩ := px_i1_spec hv
      obtain ⟨l', hv, h1, h2, h3⟩ := px_s1_spec hv
      exact px_r_istore hC h1 h2 h3 (Or.inr ⟨hd, rfl⟩) (go _ _ _ hv)
    case istore_n n =>
      simp only [px_ck, Bool.and_eq_true, beq_iff_eq, decide_eq_true_eq] at hk1
      obtain ⟨rfl, rfl⟩ := hk1
      obtain ⟨x, s, rfl, hv⟩ := px_i1_spec hv
      obtain ⟨l', hv, h1, h2, h3⟩ := px_s1_spec hv
      exact px_r_istore hC h1 h2 h3 (Or.inl ⟨n, rfl, hd, rfl⟩) (go _ _ _ hv)
    case lstore n =>
      simp only [px_ck, Bool.and_eq_true, beq_iff_eq, decide_eq_true_eq] at hk1
      obtain ⟨rfl, rfl⟩ := hk1
      obtain ⟨x, s, rfl, hv⟩ := px_l1_spec hv
      obtain ⟨l', hv, h1, h2, h3⟩ := px_s2_spec hv
      exact px_r_lstore hC h1 h2 h3 (Or.inr ⟨hd, rfl⟩) (go _ _ _ hv)
    case lstore_n n =>
      simp only [px_ck, Bool.and_eq_true, beq_iff_eq, decide_eq_true_eq] at hk1
      obtain ⟨rfl, rfl⟩ := hk1
      obtain ⟨x, s, rfl, hv⟩ := px_l1_spec hv
      obtain ⟨l', hv, h1, h2, h3⟩ := px_s2_spec hv
      exact px_r_lstore hC h1 h2 h3 (Or.inl ⟨n, rfl, hd, rfl⟩) (go _ _ _ hv)
    case astore n =>
      simp only [px_ck, Bool.and_eq_true, beq_iff_eq, decide_eq_true_eq] at hk1
      obtain ⟨rfl, rfl⟩ := hk1
      obtain ⟨x, s, rfl, hv⟩ := px_q1_spec hv
      obtain ⟨l', hv, h1, h2, h3⟩ := px_s1_spec hv
      exact px_r_astore hC h1 h2 h3 (Or.inr ⟨hd, rfl⟩) (go _ _ _ hv)
    case astore_n n =>
      simp only [px_ck, Bool.and_eq_true, beq_iff_eq, decide_eq_true_eq] at hk1
      obtain ⟨rfl, rfl⟩ := hk1
      obtain ⟨x, s, rfl, hv⟩ := px_q1_spec hv
      obtain ⟨l', hv, h1, h2, h3⟩ := px_s1_spec hv
      exact px_r_astore hC h1 h2 h3 (Or.inl ⟨n, rfl, hd, rfl⟩) (go _ _ _ hv)
    case iinc n x =>
      simp only [px_ck, Bool.and_eq_true, beq_iff_eq, decide_eq_true_eq] at hk1
      obtain ⟨⟨rfl, rfl⟩, rfl⟩ := hk1
      obtain ⟨y, hy, hv⟩ := px_gi_spec hv
      obtain ⟨l', hv, h1, h2, h3⟩ := px_s1_spec hv
      exact px_r_iinc hC hy rfl h1 h2 h3 hd (go _ _ _ hv)
    case iadd =>
      simp only [px_ck, Bool.and_eq_true, beq_iff_eq, decide_eq_true_eq] at hk1
      subst hk1
      obtain ⟨y, x, s, rfl, hv⟩ := px_i2_spec hv
      exact px_r_iadd hC hd (go _ _ _ hv)
    case isub =>
      simp only [px_ck, Bool.and_eq_true, beq_iff_eq, decide_eq_true_eq] at hk1
      subst hk1
      obtain ⟨y, x, s, rfl, hv⟩ := px_i2_spec hv
      exact px_r_isub hC hd (go _ _ _ hv)
    case imul =>
      simp only [px_ck, Bool.and_eq_true, beq_iff_eq, decide_eq_true_eq] at hk1
      subst hk1
      obtain ⟨y, x, s, rfl, hv⟩ := px_i2_spec hv
      exact px_r_imul hC hd (go _ _ _ hv)
    case iand =>
      simp only [px_ck, Bool.and_eq_true, beq_iff_eq, decide_eq_true_eq] at hk1
      subst hk1
      obtain ⟨y, x, s, rfl, hv⟩ := px_i2_spec hv
      exact px_r_iand hC hd (go _ _ _ hv)
    case ior =>
      simp only [px_ck, Bool.and_eq_true, beq_iff_eq, decide_eq_true_eq] at hk1
      subst hk1
      obtain ⟨y, x, s, rfl, hv⟩ := px_i2_spec hv
      exact px_r_ior hC hd (go _ _ _ hv)
    case ixor =>
      simp only [px_ck, Bool.and_eq_true, beq_iff_eq, decide_eq_true_eq] at hk1
      subst hk1
      obtain ⟨y, x, s, rfl, hv⟩ := px_i2_spec hv
      exact px_r_ixor hC hd (go _ _ _ hv)
    case ishl =>
      simp only [px_ck, Bool.and_eq_true, beq_iff_eq, decide_eq_true_eq] at hk1
      subst hk1
      obtain ⟨y, x, s, rfl, hv⟩ := px_i2_spec hv
      exact px_r_ishl hC hd (go _ _ _ hv)
    case ishr =>
      simp only [px_ck, Bool.and_eq_true, beq_iff_eq, decide_eq_true_eq] at hk1
      subst hk1
      obtain ⟨y, x, s, rfl, hv⟩ := px_i2_spec hv
      exact px_r_ishr hC hd (go _ _ _ hv)
    case iushr =>
      simp only [px_ck, Bool.and_eq_true, beq_iff_eq, decide_eq_true_eq] at hk1
      subst hk1
      obtain ⟨y, x, s, rfl, hv⟩ := px_i2_spec hv
      exact px_r_iushr hC hd (go _ _ _ hv)
    case idiv =>
      simp only [px_ck, Bool.and_eq_true, beq_iff_eq, decide_eq_true_eq] at hk1
      subst hk1
      obtain ⟨y, x, s, rfl, hne, hv⟩ := px_i2_spec hv
      exact px_r_idiv hC hne hd (go _ _ _ hv)
    case irem =>
      simp only [px_ck, Bool.and_eq_true, beq_iff_eq, decide_eq_true_eq] at hk1
      subst hk1
      obtain ⟨y, x, s, rfl, hne, hv⟩ := px_i2_spec hv
      exact px_r_irem hC hne hd (go _ _ _ hv)
    case ldiv =>
      simp only [px_ck, Bool.and_eq_true, beq_iff_eq, decide_eq_true_eq] at hk1
      subst hk1
      obtain ⟨y, x, s, rfl, hne, hv⟩ := px_l2_spec hv
      exact px_r_ldiv hC hne hd (go _ _ _ hv)
    case lrem =>
      simp only [px_ck, Bool.and_eq_true, beq_iff_eq, decide_eq_true_eq] at hk1
      subst hk1
      obtain ⟨y, x, s, rfl, hne, hv⟩ := px_l2_spec hv
      exact px_r_lrem hC hne hd (go _ _ _ hv)
    case tableswitch dd lo hi offs =>
      obtain ⟨x, s, rfl, hv⟩ := px_i1_spec hv
      exact px_r_table hC hd hk1 (px_sw_mono (fun t hz => hJ _ _ _ _ hz) _ hv)
    case lookupswitch dd ps =>
      obtain ⟨x, s, rfl, hv⟩ := px_i1_spec hv
      exact px_r_lookup hC hd hk1 (px_sw_mono (fun t hz => hJ _ _ _ _ hz) _ hv)
    case ladd =>
      simp only [px_ck, Bool.and_eq_true, beq_iff_eq, decide_eq_true_eq] at hk1
      subst hk1
      obtain ⟨y, x, s, rfl, hv⟩ := px_l2_spec hv
      exact px_r_ladd hC hd (go _ _ _ hv)
    case lsub =>
      simp only [px_ck, Bool.and_eq_true, beq_iff_eq, decide_eq_true_eq] at hk1
      subst hk1
      obtain ⟨y, x, s, rfl, hv⟩ := px_l2_spec hv
      exact px_r_lsub hC hd (go _ _ _ hv)
    case lmul =>
      simp only [px_ck, Bool.and_eq_true, beq_iff_eq, decide_eq_true_eq] at hk1
      subst hk1
      obtain ⟨y, x, s, rfl, hv⟩ := px_l2_spec hv
      exact px_r_lmul hC hd (go _ _ _ hv)
    case land =>
      simp only [px_ck, Bool.and_eq_true, beq_iff_eq, decide_eq_true_eq] at hk1
      subst hk1
      obtain ⟨y, x, s, rfl, hv⟩ := px_l2_spec hv
      exact px_r_land hC hd (go _ _ _ hv)
    case lor =>
      simp only [px_ck, Bool.and_eq_true, beq_iff_eq, decide_eq_true_eq] at hk1
      subst hk1
      obtain ⟨y, x, s, rfl, hv⟩ := px_l2_spec hv
      exact px_r_lor hC hd (go _ _ _ hv)
    case lcmp =>
      simp only [px_ck, Bool.and_eq_true, beq_iff_eq, decide_eq_true_eq] at hk1
      subst hk1
      obtain ⟨y, x, s, rfl, hv⟩ := px_l2_spec hv
      exact px_r_lcmp hC hd (go _ _ _ hv)
    case lshl =>
      simp only [px_ck, Bool.and_eq_true, beq_iff_eq, decide_eq_true_eq] at hk1
      subst hk1
      obtain ⟨y, x, s, rfl, hv⟩ := px_il_spec hv
      exact px_r_lshl hC hd (go _ _ _ hv)
    case lshr =>
      simp only [px_ck, Bool.and_eq_true, beq_iff_eq, decide_eq_true_eq] at hk1
      subst hk1
      obtain ⟨y, x, s, rfl, hv⟩ := px_il_spec hv
      exact px_r_lshr hC hd (go _ _ _ hv)
    case i2l =>
      simp only [px_ck, Bool.and_eq_true, beq_iff_eq, decide_eq_true_eq] at hk1
      subst hk1
      obtain ⟨x, s, rfl, hv⟩ := px_i1_spec hv
      exact px_r_i2l hC hd (go _ _ _ hv)
    case l2i =>
      simp only [px_ck, Bool.and_eq_true, beq_iff_eq, decide_eq_true_eq] at hk1
      subst hk1
      obtain ⟨x, s, rfl, hv⟩ := px_l1_spec hv
      exact px_r_l2i hC hd (go _ _ _ hv)
    case i2b =>
      simp only [px_ck, Bool.and_eq_true, beq_iff_eq, decide_eq_true_eq] at hk1
      subst hk1
      obtain ⟨x, s, rfl, hv⟩ := px_i1_spec hv
      exact px_r_i2b hC hd (go _ _ _ hv)
    case i2s =>
      simp only [px_ck, Bool.and_eq_true, beq_iff_eq, decide_eq_true_eq] at hk1
      subst hk1
      obtain ⟨x, s, rfl, hv⟩ := px_i1_spec hv
      exact px_r_i2s hC hd (go _ _ _ hv)
    case i2c =>
      simp only [px_ck, Bool.and_eq_true, beq_iff_eq, decide_eq_true_eq] at hk1
      subst hk1
      obtain ⟨x, s, rfl, hv⟩ := px_i1_spec hv
      exact px_r_i2c hC hd (go _ _ _ hv)
    case dup =>
      simp only [px_ck, Bool.and_eq_true, beq_iff_eq, decide_eq_true_eq] at hk1
      subst hk1
      obtain ⟨x, s, rfl, hc, hv⟩ := px_d1_spec hv
      exact px_r_dup hC hc hd (go _ _ _ hv)
    case pop =>
      simp only [px_ck, Bool.and_eq_true, beq_iff_eq, decide_eq_true_eq] at hk1
      subst hk1
      obtain ⟨x, s, rfl, hc, hv⟩ := px_d1_spec hv
      exact px_r_pop hC hc hd (go _ _ _ hv)
    case dup2 =>
      simp only [px_ck, Bool.and_eq_true, beq_iff_eq, decide_eq_true_eq] at hk1
      subst hk1
      rcases px_d2_spec hv with ⟨x, s, rfl, hv⟩ | ⟨x, y, s, rfl, hc, hc2, hv⟩
      · exact px_r_dup2b hC hd (go _ _ _ hv)
      · exact px_r_dup2a hC hc hc2 hd (go _ _ _ hv)
    case goto x =>
      simp only [px_ck, Bool.and_eq_true, beq_iff_eq, decide_eq_true_eq] at hk1
      obtain ⟨rfl, ht⟩ := hk1
      exact px_r_goto hC hd ht (hJ _ _ _ _ hv)
    case ifCond cd x =>
      simp only [px_ck, Bool.and_eq_true, beq_iff_eq, decide_eq_true_eq] at hk1
      obtain ⟨rfl, ht⟩ := hk1
      cases cd
      case eq =>
        obtain ⟨x, s, rfl, hT, hF⟩ := px_i1_spec hv
        exact px_r_if_eq hC hd ht (fun z => hJ _ _ _ _ (hT z)) (fun z => go _ _ _ (hF z))
      case ne =>
        obtain ⟨x, s, rfl, hT, hF⟩ := px_i1_spec hv
        exact px_r_if_ne hC hd ht (fun z => hJ _ _ _ _ (hT z)) (fun z => go _ _ _ (hF z))
      case lt =>
        obtain ⟨x, s, rfl, hT, hF⟩ := px_i1_spec hv
        exact px_r_if_lt hC hd ht (fun z => hJ _ _ _ _ (hT z)) (fun z => go _ _ _ (hF z))
      case ge =>
        obtain ⟨x, s, rfl, hT, hF⟩ := px_i1_spec hv
        exact px_r_if_ge hC hd ht (fun z => hJ _ _ _ _ (hT z)) (fun z => go _ _ _ (hF z))
      case gt =>
        obtain ⟨x, s, rfl, hT, hF⟩ := px_i1_spec hv
        exact px_r_if_gt hC hd ht (fun z => hJ _ _ _ _ (hT z)) (fun z => go _ _ _ (hF z))
      case le =>
        obtain ⟨x, s, rfl, hT, hF⟩ := px_i1_spec hv
        exact px_r_if_le hC hd ht (fun z => hJ _ _ _ _ (hT z)) (fun z => go _ _ _ (hF z))
    case if_icmp cd x =>
      simp only [px_ck, Bool.and_eq_true, beq_iff_eq, decide_eq_true_eq] at hk1
      obtain ⟨rfl, ht⟩ := hk1
      cases cd
      case eq =>
        obtain ⟨y, x, s, rfl, hT, hF⟩ := px_i2_spec hv
        exact px_r_icmp_eq hC hd ht (fun z => hJ _ _ _ _ (hT z)) (fun z => go _ _ _ (hF z))
      case ne =>
        obtain ⟨y, x, s, rfl, hT, hF⟩ := px_i2_spec hv
        exact px_r_icmp_ne hC hd ht (fun z => hJ _ _ _ _ (hT z)) (fun z => go _ _ _ (hF z))
      case lt =>
        obtain ⟨y, x, s, rfl, hT, hF⟩ := px_i2_spec hv
        exact px_r_icmp_lt hC hd ht (fun z => hJ _ _ _ _ (hT z)) (fun z => go _ _ _ (hF z))
      case ge =>
        obtain ⟨y, x, s, rfl, hT, hF⟩ := px_i2_spec hv
        exact px_r_icmp_ge hC hd ht (fun z => hJ _ _ _ _ (hT z)) (fun z => go _ _ _ (hF z))
      case gt =>
        obtain ⟨y, x, s, rfl, hT, hF⟩ := px_i2_spec hv
        exact px_r_icmp_gt hC hd ht (fun z => hJ _ _ _ _ (hT z)) (fun z => go _ _ _ (hF z))
      case le =>
        obtain ⟨y, x, s, rfl, hT, hF⟩ := px_i2_spec hv
        exact px_r_icmp_le hC hd ht (fun z => hJ _ _ _ _ (hT z)) (fun z => go _ _ _ (hF z))
    case getfield n =>
      simp only [px_ck, Bool.and_eq_true, Bool.or_eq_true, beq_iff_eq] at hk1
      obtain ⟨rfl, hf⟩ := hk1
      obtain ⟨r, s, rfl, ho, hv⟩ := px_r1_spec hv
      rcases hf with ⟨hf, hk⟩ | ⟨rfl, hf⟩
      · obtain ⟨hlk, ha⟩ := px_fl_spec hf
        exact px_r_getf hC hlk ha hk ho hd (go _ _ _ hv)
      · obtain ⟨z, hz, hq⟩ := List.any_eq_true.mp hf
        simp only [Bool.and_eq_true, beq_iff_eq] at hq
        obtain ⟨⟨q1, q2⟩, q3⟩ := hq
        have hz2 := px_gw (pn_FX_ok z hz) rfl
        rw [q1, q2] at hz2
        exact px_r_getx hC ⟨z, hz, hz2, q3⟩ ho hd (go _ _ _ hv)
    case putfield n =>
      simp only [px_ck, Bool.and_eq_true, beq_iff_eq, Bool.not_eq_true'] at hk1
      obtain ⟨⟨⟨rfl, hf⟩, hk⟩, hfin⟩ := hk1
      obtain ⟨hlk, ha⟩ := px_fl_spec hf
      obtain ⟨x, s1, rfl, hv⟩ := px_d0_spec hv
      obtain ⟨r, s, rfl, ho, hv⟩ := px_r1_spec hv
      exact px_r_putf hC hlk ha hfin hk ho hd hv (fun σ' hz => go _ _ _ hz)
    case arraylength =>
      simp only [px_ck, Bool.and_eq_true, beq_iff_eq, decide_eq_true_eq] at hk1
      subst hk1
      obtain ⟨r, s, rfl, hv⟩ := px_r1_spec hv
      obtain ⟨t, n, ho, ht, hv⟩ := px_arr_spec hv
      exact px_r_alen hC ho hd (go _ _ _ hv)
    case iaload =>
      simp only [px_ck, Bool.and_eq_true, beq_iff_eq, decide_eq_true_eq] at hk1
      subst hk1
      obtain ⟨x, s1, rfl, hv⟩ := px_i1_spec hv
      obtain ⟨r, s, rfl, hv⟩ := px_r1_spec hv
      obtain ⟨t, n, ho, ht, hin, hv⟩ := px_arr_spec hv
      exact px_r_iald hC ho ht hin hd (go _ _ _ hv)
    case laload =>
      simp only [px_ck, Bool.and_eq_true, beq_iff_eq, decide_eq_true_eq] at hk1
      subst hk1
      obtain ⟨x, s1, rfl, hv⟩ := px_i1_spec hv
      obtain ⟨r, s, rfl, hv⟩ := px_r1_spec hv
      obtain ⟨t, n, ho, rfl, hin, hv⟩ := px_arr_spec hv
      exact px_r_lald hC ho hin hd (go _ _ _ hv)
    case baload =>
      simp only [px_ck, Bool.and_eq_true, beq_iff_eq, decide_eq_true_eq] at hk1
      subst hk1
      obtain ⟨x, s1, rfl, hv⟩ := px_i1_spec hv
      obtain ⟨r, s, rfl, hv⟩ := px_r1_spec hv
      obtain ⟨t, n, ho, ht, hin, hv⟩ := px_arr_spec hv
      exact px_r_bald hC ho ht hin hd (go _ _ _ hv)
    case iastore =>
      simp only [px_ck, Bool.and_eq_true, beq_iff_eq, decide_eq_true_eq] at hk1
      subst hk1
      obtain ⟨y, x, s1, rfl, hv⟩ := px_i2_spec hv
      obtain ⟨r, s, rfl, hv⟩ := px_r1_spec hv
      obtain ⟨t, n, ho, rfl, hin, hv⟩ := px_arr_spec hv
      exact px_r_iast hC ho hin hd (go _ _ _ hv)
    case bastore =>
      simp only [px_ck, Bool.and_eq_true, beq_iff_eq, decide_eq_true_eq] at hk1
      subst hk1
      obtain ⟨y, x, s1, rfl, hv⟩ := px_i2_spec hv
      obtain ⟨r, s, rfl, hv⟩ := px_r1_spec hv
      obtain ⟨t, n, ho, ht, hin, hv⟩ := px_arr_spec hv
      exact px_r_bast hC ho ht hin hd (go _ _ _ hv)
    case lastore =>
      simp only [px_ck, Bool.and_eq_true, beq_iff_eq, decide_eq_true_eq] at hk1
      subst hk1
      obtain ⟨y, s0, rfl, hv⟩ := px_l1_spec hv
      obtain ⟨x, s1, rfl, hv⟩ := px_i1_spec hv
      obtain ⟨r, s, rfl, hv⟩ := px_r1_spec hv
      obtain ⟨t, n, ho, rfl, hin, hv⟩ := px_arr_spec hv
      exact px_r_last hC ho hin hd (go _ _ _ hv)
    case invokestatic n =>
      simp only [px_ck, Bool.and_eq_true, beq_iff_eq, decide_eq_true_eq] at hk1
      obtain ⟨⟨⟨⟨rfl, hm⟩, hs⟩, hb⟩, hdd⟩ := hk1
      obtain ⟨w1, w2, w3, w4⟩ := px_ms_spec hs
      simp only [px_vc, px_ex] at hv
      by_cases d0 : d = 0
      · rw [if_pos d0] at hv
        obtain ⟨av, s, rfl, hlen, hln, hsz, hv⟩ := px_pop_spec hv
        obtain ⟨S, hS, hv⟩ := px_sp_spec hv
        rw [List.append_nil] at hv
        exact px_r_calls hC (hsp _ hS) hh w1 w2 w3 (px_mlk_spec hm) w4 hv (by rw [hlen, hb]) hsz hln hd (fun r σ' hz => go _ _ _ hz)
      · rw [if_neg d0] at hv
        simp only [Bool.or_eq_true, Bool.and_eq_true, beq_iff_eq, decide_eq_true_eq, d0, false_or] at hdd
        exact px_r_ma hC (by omega) ⟨hdd.1.1, hdd.1.2, hdd.2⟩ w1 w2 w3 (px_mlk_spec hm) hv hd (fun v s hz => ⟨hz.1, hz.2.1, go _ _ _ hz.2.2⟩)
    case invokevirtual n =>
      simp only [px_ck, Bool.and_eq_true, beq_iff_eq, decide_eq_true_eq] at hk1
      obtain ⟨⟨⟨⟨⟨rfl, hm⟩, hs⟩, hb⟩, hdd⟩, hd13⟩ := hk1
      simp only [Bool.or_eq_true, decide_eq_true_eq, beq_iff_eq] at hd13
      obtain ⟨av, s, rfl, hlen, hln, hsz, hrv, hv⟩ := px_pop_spec hv
      obtain ⟨S, hS, hv⟩ := px_sp_spec hv
      obtain ⟨w1, w2, w3, w4, w5⟩ := px_mv_spec hs
      rw [List.append_nil] at hv hrv
      obtain ⟨r0, av', rfl, ho⟩ := px_rv_spec hrv
      rw [hdd] at ho hd13
      simp only [List.reverse_cons, List.append_assoc, List.singleton_append]
      exact px_r_callv hC (hsp _ hS) hh w1 w2 w3 w4 (px_mlk_spec hm) w5 hv hd13 ho (by show av'.length = (pn_i a).2.2.2.2.2; simp at hlen; omega) hsz hln hd (fun r σ' hz => go _ _ _ hz)
    case ireturn =>
      simp only [px_ck, Bool.and_eq_true, beq_iff_eq, decide_eq_true_eq] at hk1
      subst hk1
      obtain ⟨x, s, rfl, rfl, hr, hv⟩ := px_i1_spec hv
      exact px_r_iret hC hr hv hd
    case lreturn =>
      simp only [px_ck, Bool.and_eq_true, beq_iff_eq, decide_eq_true_eq] at hk1
      subst hk1
      obtain ⟨x, s, rfl, rfl, hr, hv⟩ := px_l1_spec hv
      exact px_r_lret hC hr hv hd
    case areturn =>
      simp only [px_ck, Bool.and_eq_true, beq_iff_eq, decide_eq_true_eq] at hk1
      subst hk1
      obtain ⟨x, s, rfl, rfl, hr, hv⟩ := px_q1_spec hv
      exact px_r_aret hC hr hv hd
    case return_ =>
      simp only [px_ck, Bool.and_eq_true, beq_iff_eq, decide_eq_true_eq] at hk1
      subst hk1
      obtain ⟨rfl, hr, hv⟩ := hv
      exact px_r_vret hC hr hv hd
    all_goals exact hv.elim
