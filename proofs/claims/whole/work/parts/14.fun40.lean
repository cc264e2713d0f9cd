/-! shallow functions, printed by wip/whole/decomp.py -/
theorem rq_i1_s (x : Int32) (s : List px_V) (f : Int32 → List px_V → Prop) : px_i1 (.inl x :: s) f = f x s := rfl
theorem rq_l1_s (x : Int64) (s : List px_V) (f : Int64 → List px_V → Prop) : px_l1 (.inr (.inl x) :: s) f = f x s := rfl
theorem rq_q1_s (x : Option Nat) (s : List px_V) (f : Option Nat → List px_V → Prop) : px_q1 (.inr (.inr x) :: s) f = f x s := rfl
theorem rq_i2_s (y x : Int32) (s : List px_V) (f : Int32 → Int32 → List px_V → Prop) : px_i2 (.inl y :: .inl x :: s) f = f y x s := rfl
theorem rq_l2_s (y x : Int64) (s : List px_V) (f : Int64 → Int64 → List px_V → Prop) : px_l2 (.inr (.inl y) :: .inr (.inl x) :: s) f = f y x s := rfl
theorem rq_il_s (y : Int32) (x : Int64) (s : List px_V) (f : Int32 → Int64 → List px_V → Prop) : px_il (.inl y :: .inr (.inl x) :: s) f = f y x s := rfl
theorem rq_d0_s (x : px_V) (s : List px_V) (f : px_V → List px_V → Prop) : px_d0 (x :: s) f = f x s := rfl
theorem rq_d1_i (x : Int32) (s : List px_V) (f : px_V → List px_V → Prop) : px_d1 (.inl x :: s) f = f (.inl x) s := rfl
theorem rq_d1_r (x : Option Nat) (s : List px_V) (f : px_V → List px_V → Prop) : px_d1 (.inr (.inr x) :: s) f = f (.inr (.inr x)) s := rfl
theorem rq_d2_l (x : Int64) (s : List px_V) (f : List px_V → Prop) : px_d2 (.inr (.inl x) :: s) f = f (.inr (.inl x) :: .inr (.inl x) :: s) := rfl
theorem rq_d2_ii (x y : Int32) (s : List px_V) (f : List px_V → Prop) : px_d2 (.inl x :: .inl y :: s) f = f (.inl x :: .inl y :: .inl x :: .inl y :: s) := rfl
theorem rq_d2_ir (x : Int32) (y : Option Nat) (s : List px_V) (f : List px_V → Prop) : px_d2 (.inl x :: .inr (.inr y) :: s) f = f (.inl x :: .inr (.inr y) :: .inl x :: .inr (.inr y) :: s) := rfl
theorem rq_nl_n : px_nl none = none := rfl
theorem rq_nl_i (x : Int32) : px_nl (some (.inl x)) = some (.inl x) := rfl
theorem rq_nl_l (x : Int64) : px_nl (some (.inr (.inl x))) = none := rfl
theorem rq_nl_r (x : Option Nat) : px_nl (some (.inr (.inr x))) = some (.inr (.inr x)) := rfl
theorem rq_gi_0 (x : Int32) (l : px_Ls) (f : Int32 → Prop) : px_gi (some (.inl x) :: l) 0 f = f x := rfl
theorem rq_gi_S (y : Option px_V) (l : px_Ls) (n : Nat) (f : Int32 → Prop) : px_gi (y :: l) (n + 1) f = px_gi l n f := by rw [px_gi]
theorem rq_s1_0 (y : Option px_V) (l : px_Ls) (x : px_V) (f : px_Ls → Prop) : px_s1 (y :: l) 0 x f = f (some x :: l) := by rw [px_s1]
theorem rq_s1_1 (y z : Option px_V) (l : px_Ls) (x : px_V) (f : px_Ls → Prop) : px_s1 (y :: z :: l) 1 x f = f (px_nl y :: some x :: l) := by rw [px_s1]
theorem rq_s1_S (y : Option px_V) (l : px_Ls) (n : Nat) (x : px_V) (f : px_Ls → Prop) : px_s1 (y :: l) (n + 2) x f = px_s1 l (n + 1) x (fun l' => f (y :: l')) := by rw [px_s1]
theorem rq_gl_0 (x : Int64) (l : px_Ls) (f : Int64 → Prop) : px_gl (some (.inr (.inl x)) :: l) 0 f = f x := rfl
theorem rq_gl_S (y : Option px_V) (l : px_Ls) (n : Nat) (f : Int64 → Prop) : px_gl (y :: l) (n + 1) f = px_gl l n f := by rw [px_gl]
theorem rq_gr_0 (x : Option Nat) (l : px_Ls) (f : Option Nat → Prop) : px_gr (some (.inr (.inr x)) :: l) 0 f = f x := rfl
theorem rq_gr_S (y : Option px_V) (l : px_Ls) (n : Nat) (f : Option Nat → Prop) : px_gr (y :: l) (n + 1) f = px_gr l n f := by rw [px_gr]
theorem rq_s2_0 (y z : Option px_V) (l : px_Ls) (x : px_V) (f : px_Ls → Prop) : px_s2 (y :: z :: l) 0 x f = f (some x :: none :: l) := by rw [px_s2]
theorem rq_s2_1 (y z w : Option px_V) (l : px_Ls) (x : px_V) (f : px_Ls → Prop) : px_s2 (y :: z :: w :: l) 1 x f = f (px_nl y :: some x :: none :: l) := by rw [px_s2]
theorem rq_s2_S (y : Option px_V) (l : px_Ls) (n : Nat) (x : px_V) (f : px_Ls → Prop) : px_s2 (y :: l) (n + 2) x f = px_s2 l (n + 1) x (fun l' => f (y :: l')) := by rw [px_s2]
theorem rq_pt_0 (σ : px_M) (r j : Nat) (v : Int32) (K : px_M → Prop) : px_pt 0 σ r j (.inl v) K = K (px_wi σ r j v) := rfl
theorem rq_pt_3 (σ : px_M) (r j : Nat) (v : Int32) (K : px_M → Prop) : px_pt 3 σ r j (.inl v) K = ((v = nI 0 ∨ v = nI 1) ∧ K (px_wi σ r j v)) := rfl
theorem rq_pt_1 (σ : px_M) (r j : Nat) (v : Int64) (K : px_M → Prop) : px_pt 1 σ r j (.inr (.inl v)) K = K (px_wl σ r j v) := rfl
theorem rq_pt_2 (σ : px_M) (r j : Nat) (v : Option Nat) (K : px_M → Prop) : px_pt 2 σ r j (.inr (.inr v)) K = K (px_wr σ r j v) := rfl
def Sg_11017 (g : px_M → Nat → Int32 → Int32 → Option (Int32)) : px_S := fun av σ k => av_0 av (fun x0 av => ai_1 av (fun x1 av => ai_2 av (fun x2 av => av = [] ∧ oW (g σ x0 x1 x2) (fun r => k (some (.inl r)) σ))))
/-- NoThree$Town.within(II)I -/
noncomputable def f_11017_40 (tab : px_T) (σ : px_M) (x0 : Nat) (x2 : Int32) (x3 : Int32) (x4 : Int32) : Option ((Int32 × Int32) ⊕ (Int32)) := some (.inl ((x3, (x4 + (nI 1)))))
noncomputable def F_11017_19 (tab : px_T) (σ : px_M) (x0 : Nat) (x2 : Int32) (x3 : Int32) (x4 : Int32) : Option ((Int32 × Int32) ⊕ (Int32)) := if x2 ≤ x4 then (some (.inr (x3))) else (if (nI 11) ≤ x4 then (some (.inr (x3))) else (gd (px_obj (px_lay tab x0) 11) ((f_11016 tab σ x0 x3).bind fun r1 => f_11017_40 tab σ x0 x2 ((x3 ||| r1)) x4)))
noncomputable def f_11017_19 (tab : px_T) (σ : px_M) (x0 : Nat) (x2 : Int32) (x3 : Int32) (x4 : Int32) : Option (Int32) := lpO (fun s : Int32 × Int32 => F_11017_19 tab σ x0 x2 s.1 s.2) (x3, x4)
theorem f_11017_19_eq (tab : px_T) (σ : px_M) (x0 : Nat) (x2 : Int32) (x3 : Int32) (x4 : Int32) : f_11017_19 tab σ x0 x2 x3 x4 = (F_11017_19 tab σ x0 x2 x3 x4).bind (Sum.elim (fun s => f_11017_19 tab σ x0 x2 s.1 s.2) some) := lpO_eq _ _
noncomputable def f_11017 (tab : px_T) (σ : px_M) (x0 : Nat) (x1 : Int32) (x2 : Int32) : Option (Int32) := gd (px_obj (px_lay tab x0) 11) ((f_11002 tab σ x0 x1).bind fun r1 => if r1 = nI 0 then (f_11017_19 tab σ x0 x2 ((nI 0)) ((nI 0))) else (f_11017_19 tab σ x0 x2 (((nI 1) <<< (x1 &&& 31))) ((nI 0))))
def kp_11017_40 (Q : Nat → Int32 → Int32 → Int32 → px_M → Prop) : px_P := fun ls st τ => st = [] ∧ kN ls (fun x0 ls => kZ ls (fun ls => kI ls (fun x2 ls => kI ls (fun x3 ls => kI ls (fun x4 ls => kE ls (Q x0 x2 x3 x4 τ))))))
theorem kq_11017_40 {C : px_C} {k : Option px_V → px_M → Prop} {Q : Nat → Int32 → Int32 → Int32 → px_M → Prop} (H : ∀ (x0 : Nat) (x2 : Int32) (x3 : Int32) (x4 : Int32) (τ : px_M), Q x0 x2 x3 x4 τ → ∀ (z1 : Option px_V), px_W C k 40 [some (.inr (.inr (some x0))), z1, some (.inl x2), some (.inl x3), some (.inl x4)] [] τ) : ∀ ls st τ, kp_11017_40 Q ls st τ → px_W C k 40 ls st τ := by
  intro ls st τ hz
  obtain ⟨ez, h0⟩ := hz
  obtain ⟨x0, l0, e0, h1⟩ := kN_sp h0
  obtain ⟨z1, l1, e1, h2⟩ := kZ_sp h1
  obtain ⟨x2, l2, e2, h3⟩ := kI_sp h2
  obtain ⟨x3, l3, e3, h4⟩ := kI_sp h3
  obtain ⟨x4, l4, e4, h5⟩ := kI_sp h4
  obtain ⟨ey, hy⟩ := kE_sp h5
  subst ez
  subst ey
  subst e4
  subst e3
  subst e2
  subst e1
  subst e0
  exact H x0 x2 x3 x4 τ hy z1
def kp_11017_19 (Q : Nat → Int32 → Int32 → Int32 → px_M → Prop) : px_P := fun ls st τ => st = [] ∧ kN ls (fun x0 ls => kZ ls (fun ls => kI ls (fun x2 ls => kI ls (fun x3 ls => kI ls (fun x4 ls => kE ls (Q x0 x2 x3 x4 τ))))))
theorem kq_11017_19 {C : px_C} {k : Option px_V → px_M → Prop} {Q : Nat → Int32 → Int32 → Int32 → px_M → Prop} (H : ∀ (x0 : Nat) (x2 : Int32) (x3 : Int32) (x4 : Int32) (τ : px_M), Q x0 x2 x3 x4 τ → ∀ (z1 : Option px_V), px_W C k 19 [some (.inr (.inr (some x0))), z1, some (.inl x2), some (.inl x3), some (.inl x4)] [] τ) : ∀ ls st τ, kp_11017_19 Q ls st τ → px_W C k 19 ls st τ := by
  intro ls st τ hz
  obtain ⟨ez, h0⟩ := hz
  obtain ⟨x0, l0, e0, h1⟩ := kN_sp h0
  obtain ⟨z1, l1, e1, h2⟩ := kZ_sp h1
  obtain ⟨x2, l2, e2, h3⟩ := kI_sp h2
  obtain ⟨x3, l3, e3, h4⟩ := kI_sp h3
  obtain ⟨x4, l4, e4, h5⟩ := kI_sp h4
  obtain ⟨ey, hy⟩ := kE_sp h5
  subst ez
  subst ey
  subst e4
  subst e3
  subst e2
  subst e1
  subst e0
  exact H x0 x2 x3 x4 τ hy z1
set_option maxHeartbeats 4000000 in
set_option maxRecDepth 100000 in
theorem rl_11017_40 {C : px_C} (hn : px_nd (px_tb C)) {h : Nat} (hh : 2 ≤ h) (hC : px_ok C pn_i11017 h) {k : Option px_V → px_M → Prop} {x0 : Nat} {x2 : Int32} {x3 : Int32} {x4 : Int32} {σ : px_M} (hs : oW (f_11017_40 (px_tb C) σ x0 x2 x3 x4) (Sum.elim (fun s : Int32 × Int32 => ∀ (z1 : Option px_V), px_W C k 19 [some (.inr (.inr (some x0))), z1, some (.inl x2), some (.inl s.1), some (.inl s.2)] [] σ) (fun r => k (some (.inl r)) σ))) : ∀ (z1 : Option px_V), px_W C k 40 [some (.inr (.inr (some x0))), z1, some (.inl x2), some (.inl x3), some (.inl x4)] [] σ := by
  intro z1
  refine px_runH (h - 1) ck_11017 [] [(19, kp_11017_19 (fun y0 y2 y3 y4 τ => y0 = x0 ∧ y2 = x2 ∧ τ = σ ∧ (fun s : Int32 × Int32 => ∀ (z1 : Option px_V), px_W C k 19 [some (.inr (.inr (some x0))), z1, some (.inl x2), some (.inl s.1), some (.inl s.2)] [] σ) (y3, y4)))] 80 5 (some .int) rfl rfl hC px_nosp (by omega) (px_cut1 (kq_11017_19 (fun y0 y2 y3 y4 τ hq => by obtain ⟨rfl, rfl, rfl, hq⟩ := hq; exact hq)) px_nocut) (fun G Jf hG hJf => ?_)
  unfold f_11017_40 at hs
  simp (implicitDefEqProofs := false) only [↓hG, ↓hJf, ↓px_vc, ↓px_ex, ↓px_jp, ↓rq_gi_0, ↓rq_gi_S, ↓rq_gl_0, ↓rq_gl_S, ↓rq_gr_0, ↓rq_gr_S, ↓rq_s1_0, ↓rq_s1_1, ↓rq_s1_S, ↓rq_s2_0, ↓rq_s2_1, ↓rq_s2_S, ↓rq_nl_n, ↓rq_nl_i, ↓rq_nl_l, ↓rq_nl_r, ↓rq_i1_s, ↓rq_l1_s, ↓r1_s, ↓rq_q1_s, ↓rq_i2_s, ↓rq_l2_s, ↓rq_il_s, ↓rq_d0_s, ↓rq_d1_i, ↓rq_d1_r, ↓rq_d2_l, ↓rq_d2_ii, ↓rq_d2_ir, ↓px_pop, ↓px_sp, ↓px_rd, ↓px_rf, ↓pn_xf, ↓rq_pt_0, ↓rq_pt_1, ↓rq_pt_2, ↓rq_pt_3, ↓px_sw, ↓pn_SW, ↓px_ma, ↓reduceIte, Nat.reduceEqDiff, Nat.reduceAdd, Nat.reduceSub, ↓Option.toList_some, ↓Option.toList_none, ↓List.cons_append, ↓List.nil_append, ↓kI_s, ↓kJ_s, ↓kN_s, ↓kO_s, ↓kZ_s, ↓kE_s, ↓an_rfl, ↓bt1 n00, ↓bt2 n00, ↓bf1 n10, ↓bf2 n10, ↓an_sz0, ↓an_sz1, ↓an_sz2, ↓an_sz3, ↓an_sz4, ↓an_ri, ↓an_rb0, ↓an_rb1, ↓an_b0, ↓an_b1, true_and, ↓ai_0s, ↓al_0s, ↓av_0s, ↓aq_0s, ↓ai_1s, ↓al_1s, ↓av_1s, ↓aq_1s, ↓ai_2s, ↓al_2s, ↓av_2s, ↓aq_2s, ↓ai_3s, ↓al_3s, ↓av_3s, ↓aq_3s, ↓ai_4s, ↓al_4s, ↓av_4s, ↓aq_4s, ↓ai_5s, ↓al_5s, ↓av_5s, ↓aq_5s, ↓ai_6s, ↓al_6s, ↓av_6s, ↓aq_6s, ↓ai_7s, ↓al_7s, ↓av_7s, ↓aq_7s, ↓an_l5, ↓bk_11017, ↓kp_11017_19]
  rw [oW_some] at hs
  exact hs
set_option maxHeartbeats 4000000 in
set_option maxRecDepth 100000 in
theorem rl_11017_19 {C : px_C} (hn : px_nd (px_tb C)) {h : Nat} (hh : 2 ≤ h) (hC : px_ok C pn_i11017 h) {k : Option px_V → px_M → Prop} {x0 : Nat} {x2 : Int32} {σ : px_M} : ∀ s : Int32 × Int32, oW (f_11017_19 (px_tb C) σ x0 x2 s.1 s.2) (fun r => k (some (.inl r)) σ) → (fun s : Int32 × Int32 => ∀ (z1 : Option px_V), px_W C k 19 [some (.inr (.inr (some x0))), z1, some (.inl x2), some (.inl s.1), some (.inl s.2)] [] σ) s := by
  intro s h0
  refine lpO_sound (P := (fun s : Int32 × Int32 => ∀ (z1 : Option px_V), px_W C k 19 [some (.inr (.inr (some x0))), z1, some (.inl x2), some (.inl s.1), some (.inl s.2)] [] σ)) (fun s hs => ?_) h0
  obtain ⟨x3, x4⟩ := s
  intro z1
  refine px_runH (h - 1) ck_11017 [(11016, Sg_11016 (f_11016 (px_tb C)))] [(40, kp_11017_40 (fun y0 y2 y3 y4 τ => y0 = x0 ∧ y2 = x2 ∧ τ = σ ∧ oW (f_11017_40 (px_tb C) τ y0 y2 y3 y4) (Sum.elim (fun s : Int32 × Int32 => ∀ (z1 : Option px_V), px_W C k 19 [some (.inr (.inr (some x0))), z1, some (.inl x2), some (.inl s.1), some (.inl s.2)] [] σ) (fun r => k (some (.inl r)) σ))))] 80 5 (some .int) rfl rfl hC (px_sp1 (mf_11016 hn (by omega)) px_nosp) (by omega) (px_cut1 (kq_11017_40 (fun y0 y2 y3 y4 τ hq => by obtain ⟨rfl, rfl, rfl, hq⟩ := hq; exact rl_11017_40 hn (by omega) hC  hq)) px_nocut) (fun G Jf hG hJf => ?_)
  replace hs : oW (F_11017_19 (px_tb C) σ x0 x2 x3 x4) _ := hs
  unfold F_11017_19 at hs
  by_cases hc0 : x2 ≤ x4
  · replace hs := oW_t hs hc0
    simp (implicitDefEqProofs := false) only [↓hG, ↓hJf, ↓px_vc, ↓px_ex, ↓px_jp, ↓rq_gi_0, ↓rq_gi_S, ↓rq_gl_0, ↓rq_gl_S, ↓rq_gr_0, ↓rq_gr_S, ↓rq_s1_0, ↓rq_s1_1, ↓rq_s1_S, ↓rq_s2_0, ↓rq_s2_1, ↓rq_s2_S, ↓rq_nl_n, ↓rq_nl_i, ↓rq_nl_l, ↓rq_nl_r, ↓rq_i1_s, ↓rq_l1_s, ↓r1_s, ↓rq_q1_s, ↓rq_i2_s, ↓rq_l2_s, ↓rq_il_s, ↓rq_d0_s, ↓rq_d1_i, ↓rq_d1_r, ↓rq_d2_l, ↓rq_d2_ii, ↓rq_d2_ir, ↓px_pop, ↓px_sp, ↓px_rd, ↓px_rf, ↓pn_xf, ↓rq_pt_0, ↓rq_pt_1, ↓rq_pt_2, ↓rq_pt_3, ↓px_sw, ↓pn_SW, ↓px_ma, ↓reduceIte, Nat.reduceEqDiff, Nat.reduceAdd, Nat.reduceSub, ↓Option.toList_some, ↓Option.toList_none, ↓List.cons_append, ↓List.nil_append, ↓kI_s, ↓kJ_s, ↓kN_s, ↓kO_s, ↓kZ_s, ↓kE_s, ↓an_rfl, ↓bt1 n00, ↓bt2 n00, ↓bf1 n10, ↓bf2 n10, ↓an_sz0, ↓an_sz1, ↓an_sz2, ↓an_sz3, ↓an_sz4, ↓an_ri, ↓an_rb0, ↓an_rb1, ↓an_b0, ↓an_b1, true_and, ↓ai_0s, ↓al_0s, ↓av_0s, ↓aq_0s, ↓ai_1s, ↓al_1s, ↓av_1s, ↓aq_1s, ↓ai_2s, ↓al_2s, ↓av_2s, ↓aq_2s, ↓ai_3s, ↓al_3s, ↓av_3s, ↓aq_3s, ↓ai_4s, ↓al_4s, ↓av_4s, ↓aq_4s, ↓ai_5s, ↓al_5s, ↓av_5s, ↓aq_5s, ↓ai_6s, ↓al_6s, ↓av_6s, ↓aq_6s, ↓ai_7s, ↓al_7s, ↓av_7s, ↓aq_7s, ↓an_l5, ↓bk_11017, ↓Sg_11016, ↓kp_11017_40, ↓bt1 hc0, ↓bt2 hc0]
    rw [oW_some] at hs
    exact hs
  · replace hs := oW_f hs hc0
    by_cases hc1 : (nI 11) ≤ x4
    · replace hs := oW_t hs hc1
      simp (implicitDefEqProofs := false) only [↓hG, ↓hJf, ↓px_vc, ↓px_ex, ↓px_jp, ↓rq_gi_0, ↓rq_gi_S, ↓rq_gl_0, ↓rq_gl_S, ↓rq_gr_0, ↓rq_gr_S, ↓rq_s1_0, ↓rq_s1_1, ↓rq_s1_S, ↓rq_s2_0, ↓rq_s2_1, ↓rq_s2_S, ↓rq_nl_n, ↓rq_nl_i, ↓rq_nl_l, ↓rq_nl_r, ↓rq_i1_s, ↓rq_l1_s, ↓r1_s, ↓rq_q1_s, ↓rq_i2_s, ↓rq_l2_s, ↓rq_il_s, ↓rq_d0_s, ↓rq_d1_i, ↓rq_d1_r, ↓rq_d2_l, ↓rq_d2_ii, ↓rq_d2_ir, ↓px_pop, ↓px_sp, ↓px_rd, ↓px_rf, ↓pn_xf, ↓rq_pt_0, ↓rq_pt_1, ↓rq_pt_2, ↓rq_pt_3, ↓px_sw, ↓pn_SW, ↓px_ma, ↓reduceIte, Nat.reduceEqDiff, Nat.reduceAdd, Nat.reduceSub, ↓Option.toList_some, ↓Option.toList_none, ↓List.cons_append, ↓List.nil_append, ↓kI_s, ↓kJ_s, ↓kN_s, ↓kO_s, ↓kZ_s, ↓kE_s, ↓an_rfl, ↓bt1 n00, ↓bt2 n00, ↓bf1 n10, ↓bf2 n10, ↓an_sz0, ↓an_sz1, ↓an_sz2, ↓an_sz3, ↓an_sz4, ↓an_ri, ↓an_rb0, ↓an_rb1, ↓an_b0, ↓an_b1, true_and, ↓ai_0s, ↓al_0s, ↓av_0s, ↓aq_0s, ↓ai_1s, ↓al_1s, ↓av_1s, ↓aq_1s, ↓ai_2s, ↓al_2s, ↓av_2s, ↓aq_2s, ↓ai_3s, ↓al_3s, ↓av_3s, ↓aq_3s, ↓ai_4s, ↓al_4s, ↓av_4s, ↓aq_4s, ↓ai_5s, ↓al_5s, ↓av_5s, ↓aq_5s, ↓ai_6s, ↓al_6s, ↓av_6s, ↓aq_6s, ↓ai_7s, ↓al_7s, ↓av_7s, ↓aq_7s, ↓an_l5, ↓bk_11017, ↓Sg_11016, ↓kp_11017_40, ↓bf1 hc0, ↓bf2 hc0, ↓bt1 hc1, ↓bt2 hc1]
      rw [oW_some] at hs
      exact hs
    · replace hs := oW_f hs hc1
      obtain ⟨hc2, hs⟩ := oW_gx hs
      obtain ⟨r1, hc3, hs⟩ := oW_bx hs
      simp (implicitDefEqProofs := false) only [↓hG, ↓hJf, ↓px_vc, ↓px_ex, ↓px_jp, ↓rq_gi_0, ↓rq_gi_S, ↓rq_gl_0, ↓rq_gl_S, ↓rq_gr_0, ↓rq_gr_S, ↓rq_s1_0, ↓rq_s1_1, ↓rq_s1_S, ↓rq_s2_0, ↓rq_s2_1, ↓rq_s2_S, ↓rq_nl_n, ↓rq_nl_i, ↓rq_nl_l, ↓rq_nl_r, ↓rq_i1_s, ↓rq_l1_s, ↓r1_s, ↓rq_q1_s, ↓rq_i2_s, ↓rq_l2_s, ↓rq_il_s, ↓rq_d0_s, ↓rq_d1_i, ↓rq_d1_r, ↓rq_d2_l, ↓rq_d2_ii, ↓rq_d2_ir, ↓px_pop, ↓px_sp, ↓px_rd, ↓px_rf, ↓pn_xf, ↓rq_pt_0, ↓rq_pt_1, ↓rq_pt_2, ↓rq_pt_3, ↓px_sw, ↓pn_SW, ↓px_ma, ↓reduceIte, Nat.reduceEqDiff, Nat.reduceAdd, Nat.reduceSub, ↓Option.toList_some, ↓Option.toList_none, ↓List.cons_append, ↓List.nil_append, ↓kI_s, ↓kJ_s, ↓kN_s, ↓kO_s, ↓kZ_s, ↓kE_s, ↓an_rfl, ↓bt1 n00, ↓bt2 n00, ↓bf1 n10, ↓bf2 n10, ↓an_sz0, ↓an_sz1, ↓an_sz2, ↓an_sz3, ↓an_sz4, ↓an_ri, ↓an_rb0, ↓an_rb1, ↓an_b0, ↓an_b1, true_and, ↓ai_0s, ↓al_0s, ↓av_0s, ↓aq_0s, ↓ai_1s, ↓al_1s, ↓av_1s, ↓aq_1s, ↓ai_2s, ↓al_2s, ↓av_2s, ↓aq_2s, ↓ai_3s, ↓al_3s, ↓av_3s, ↓aq_3s, ↓ai_4s, ↓al_4s, ↓av_4s, ↓aq_4s, ↓ai_5s, ↓al_5s, ↓av_5s, ↓aq_5s, ↓ai_6s, ↓al_6s, ↓av_6s, ↓aq_6s, ↓ai_7s, ↓al_7s, ↓av_7s, ↓aq_7s, ↓an_l5, ↓bk_11017, ↓Sg_11016, ↓kp_11017_40, ↓bf1 hc0, ↓bf2 hc0, ↓bf1 hc1, ↓bf2 hc1, ↓an_t hc2, ↓an_rv hc2, ↓oW_e hc3]
      exact hs
set_option maxHeartbeats 4000000 in
set_option maxRecDepth 100000 in
theorem mf_11017 {tab : px_T} (hn : px_nd tab) {h : Nat} (hh : 2 ≤ h) : px_Ok tab pn_i11017 h (Sg_11017 (f_11017 tab)) := by
  refine px_mth hn (by decide +kernel) (fun av σ k hS => ?_) (fun C hT hC av σ k hS => ?_)
  · obtain ⟨x0, av0, e0, h0⟩ := av_0p hS
    obtain ⟨x1, av1, e1, h1⟩ := ai_1p h0
    obtain ⟨x2, av2, e2, h2⟩ := ai_2p h1
    obtain ⟨ez, hs⟩ := h2
    subst ez
    subst e2
    subst e1
    subst e0
    exact Nat.le_of_ble_eq_true rfl
  · obtain ⟨x0, av0, e0, h0⟩ := av_0p hS
    obtain ⟨x1, av1, e1, h1⟩ := ai_1p h0
    obtain ⟨x2, av2, e2, h2⟩ := ai_2p h1
    obtain ⟨ez, hs⟩ := h2
    subst ez
    subst e2
    subst e1
    subst e0
    subst hT
    show px_W C k 0 [some (.inr (.inr (some x0))), some (.inl x1), some (.inl x2), none, none] [] σ
    refine px_runH (h - 1) ck_11017 [(11002, Sg_11002 (f_11002 (px_tb C)))] [(19, kp_11017_19 (fun y0 y2 y3 y4 τ => τ = σ ∧ oW (f_11017_19 (px_tb C) τ y0 y2 y3 y4) (fun r => k (some (.inl r)) σ)))] 80 5 (some .int) rfl rfl hC (px_sp1 (mf_11002 hn (by omega)) px_nosp) (by omega) (px_cut1 (kq_11017_19 (fun y0 y2 y3 y4 τ hq => by obtain ⟨rfl, hq⟩ := hq; exact rl_11017_19 hn (by omega) hC (y3, y4) hq)) px_nocut) (fun G Jf hG hJf => ?_)
    unfold f_11017 at hs
    obtain ⟨hc0, hs⟩ := oW_gx hs
    obtain ⟨r1, hc1, hs⟩ := oW_bx hs
    by_cases hc2 : r1 = nI 0
    · replace hs := oW_t hs hc2
      simp (implicitDefEqProofs := false) only [↓hG, ↓hJf, ↓px_vc, ↓px_ex, ↓px_jp, ↓rq_gi_0, ↓rq_gi_S, ↓rq_gl_0, ↓rq_gl_S, ↓rq_gr_0, ↓rq_gr_S, ↓rq_s1_0, ↓rq_s1_1, ↓rq_s1_S, ↓rq_s2_0, ↓rq_s2_1, ↓rq_s2_S, ↓rq_nl_n, ↓rq_nl_i, ↓rq_nl_l, ↓rq_nl_r, ↓rq_i1_s, ↓rq_l1_s, ↓r1_s, ↓rq_q1_s, ↓rq_i2_s, ↓rq_l2_s, ↓rq_il_s, ↓rq_d0_s, ↓rq_d1_i, ↓rq_d1_r, ↓rq_d2_l, ↓rq_d2_ii, ↓rq_d2_ir, ↓px_pop, ↓px_sp, ↓px_rd, ↓px_rf, ↓pn_xf, ↓rq_pt_0, ↓rq_pt_1, ↓rq_pt_2, ↓rq_pt_3, ↓px_sw, ↓pn_SW, ↓px_ma, ↓reduceIte, Nat.reduceEqDiff, Nat.reduceAdd, Nat.reduceSub, ↓Option.toList_some, ↓Option.toList_none, ↓List.cons_append, ↓List.nil_append, ↓kI_s, ↓kJ_s, ↓kN_s, ↓kO_s, ↓kZ_s, ↓kE_s, ↓an_rfl, ↓bt1 n00, ↓bt2 n00, ↓bf1 n10, ↓bf2 n10, ↓an_sz0, ↓an_sz1, ↓an_sz2, ↓an_sz3, ↓an_sz4, ↓an_ri, ↓an_rb0, ↓an_rb1, ↓an_b0, ↓an_b1, true_and, ↓ai_0s, ↓al_0s, ↓av_0s, ↓aq_0s, ↓ai_1s, ↓al_1s, ↓av_1s, ↓aq_1s, ↓ai_2s, ↓al_2s, ↓av_2s, ↓aq_2s, ↓ai_3s, ↓al_3s, ↓av_3s, ↓aq_3s, ↓ai_4s, ↓al_4s, ↓av_4s, ↓aq_4s, ↓ai_5s, ↓al_5s, ↓av_5s, ↓aq_5s, ↓ai_6s, ↓al_6s, ↓av_6s, ↓aq_6s, ↓ai_7s, ↓al_7s, ↓av_7s, ↓aq_7s, ↓an_l5, ↓bk_11017, ↓Sg_11002, ↓kp_11017_19, ↓an_t hc0, ↓an_rv hc0, ↓oW_e hc1, ↓bt1 hc2, ↓bt2 hc2]
      exact hs
    · replace hs := oW_f hs hc2
      simp (implicitDefEqProofs := false) only [↓hG, ↓hJf, ↓px_vc, ↓px_ex, ↓px_jp, ↓rq_gi_0, ↓rq_gi_S, ↓rq_gl_0, ↓rq_gl_S, ↓rq_gr_0, ↓rq_gr_S, ↓rq_s1_0, ↓rq_s1_1, ↓rq_s1_S, ↓rq_s2_0, ↓rq_s2_1, ↓rq_s2_S, ↓rq_nl_n, ↓rq_nl_i, ↓rq_nl_l, ↓rq_nl_r, ↓rq_i1_s, ↓rq_l1_s, ↓r1_s, ↓rq_q1_s, ↓rq_i2_s, ↓rq_l2_s, ↓rq_il_s, ↓rq_d0_s, ↓rq_d1_i, ↓rq_d1_r, ↓rq_d2_l, ↓rq_d2_ii, ↓rq_d2_ir, ↓px_pop, ↓px_sp, ↓px_rd, ↓px_rf, ↓pn_xf, ↓rq_pt_0, ↓rq_pt_1, ↓rq_pt_2, ↓rq_pt_3, ↓px_sw, ↓pn_SW, ↓px_ma, ↓reduceIte, Nat.reduceEqDiff, Nat.reduceAdd, Nat.reduceSub, ↓Option.toList_some, ↓Option.toList_none, ↓List.cons_append, ↓List.nil_append, ↓kI_s, ↓kJ_s, ↓kN_s, ↓kO_s, ↓kZ_s, ↓kE_s, ↓an_rfl, ↓bt1 n00, ↓bt2 n00, ↓bf1 n10, ↓bf2 n10, ↓an_sz0, ↓an_sz1, ↓an_sz2, ↓an_sz3, ↓an_sz4, ↓an_ri, ↓an_rb0, ↓an_rb1, ↓an_b0, ↓an_b1, true_and, ↓ai_0s, ↓al_0s, ↓av_0s, ↓aq_0s, ↓ai_1s, ↓al_1s, ↓av_1s, ↓aq_1s, ↓ai_2s, ↓al_2s, ↓av_2s, ↓aq_2s, ↓ai_3s, ↓al_3s, ↓av_3s, ↓aq_3s, ↓ai_4s, ↓al_4s, ↓av_4s, ↓aq_4s, ↓ai_5s, ↓al_5s, ↓av_5s, ↓aq_5s, ↓ai_6s, ↓al_6s, ↓av_6s, ↓aq_6s, ↓ai_7s, ↓al_7s, ↓av_7s, ↓aq_7s, ↓an_l5, ↓bk_11017, ↓Sg_11002, ↓kp_11017_19, ↓an_t hc0, ↓an_rv hc0, ↓oW_e hc1, ↓bf1 hc2, ↓bf2 hc2]
      exact hs
def Sg_4004 (g : px_M → Nat → Int32 → Option (Int32 × px_M)) : px_S := fun av σ k => av_0 av (fun x0 av => ai_1 av (fun x1 av => av = [] ∧ oW (g σ x0 x1) (fun q => k (some (.inl q.1)) q.2)))
/-- NoThree$Gossip.roundsFrom(I)I -/
noncomputable def F_4004_16 (tab : px_T) (x0 : Nat) (x1 : Int32) (x2 : Int32) (σ : px_M) : Option ((Int32 × px_M) ⊕ (Int32 × px_M)) := if (nI 11) ≤ x2 then (some (.inr (((nI 11), σ)))) else (gd (px_obj (px_lay tab x0) 4) ((f_4005 tab 160 σ x0 (((nI 1) <<< (x1 &&& 31))) x2).bind fun q1 => if q1.1 = nI 0 then (some (.inl (((x2 + (nI 1)), q1.2)))) else (some (.inr ((x2, q1.2))))))
noncomputable def f_4004_16 (tab : px_T) (x0 : Nat) (x1 : Int32) (x2 : Int32) (σ : px_M) : Option (Int32 × px_M) := lpO (fun s : Int32 × px_M => F_4004_16 tab x0 x1 s.1 s.2) (x2, σ)
theorem f_4004_16_eq (tab : px_T) (x0 : Nat) (x1 : Int32) (x2 : Int32) (σ : px_M) : f_4004_16 tab x0 x1 x2 σ = (F_4004_16 tab x0 x1 x2 σ).bind (Sum.elim (fun s => f_4004_16 tab x0 x1 s.1 s.2) some) := lpO_eq _ _
noncomputable def f_4004 (tab : px_T) (σ : px_M) (x0 : Nat) (x1 : Int32) : Option (Int32 × px_M) := gd (px_obj (px_lay tab x0) 4) ((((σ).2.2 x0 3)).bind fun n1 => gd (px_obj (px_lay tab n1) 11) ((f_11017 tab σ n1 x1 ((nI 11))).bind fun r2 => f_4004_16 tab x0 x1 ((nI 0)) ((px_wi σ x0 4 r2))))
def kp_4004_16 (Q : Nat → Int32 → Int32 → px_M → Prop) : px_P := fun ls st τ => st = [] ∧ kN ls (fun x0 ls => kI ls (fun x1 ls => kI ls (fun x2 ls => kE ls (Q x0 x1 x2 τ))))
theorem kq_4004_16 {C : px_C} {k : Option px_V → px_M → Prop} {Q : Nat → Int32 → Int32 → px_M → Prop} (H : ∀ (x0 : Nat) (x1 : Int32) (x2 : Int32) (τ : px_M), Q x0 x1 x2 τ → px_W C k 16 [some (.inr (.inr (some x0))), some (.inl x1), some (.inl x2)] [] τ) : ∀ ls st τ, kp_4004_16 Q ls st τ → px_W C k 16 ls st τ := by
  intro ls st τ hz
  obtain ⟨ez, h0⟩ := hz
  obtain ⟨x0, l0, e0, h1⟩ := kN_sp h0
  obtain ⟨x1, l1, e1, h2⟩ := kI_sp h1
  obtain ⟨x2, l2, e2, h3⟩ := kI_sp h2
  obtain ⟨ey, hy⟩ := kE_sp h3
  subst ez
  subst ey
  subst e2
  subst e1
  subst e0
  exact H x0 x1 x2 τ hy
set_option maxHeartbeats 4000000 in
set_option maxRecDepth 100000 in
theorem rl_4004_16 {C : px_C} (hn : px_nd (px_tb C)) {h : Nat} (hh : 165 ≤ h) (hC : px_ok C pn_i4004 h) {k : Option px_V → px_M → Prop} {x0 : Nat} {x1 : Int32} : ∀ s : Int32 × px_M, oW (f_4004_16 (px_tb C) x0 x1 s.1 s.2) (fun q => k (some (.inl q.1)) q.2) → (fun s : Int32 × px_M => px_W C k 16 [some (.inr (.inr (some x0))), some (.inl x1), some (.inl s.1)] [] s.2) s := by
  intro s h0
  refine lpO_sound (P := (fun s : Int32 × px_M => px_W C k 16 [some (.inr (.inr (some x0))), some (.inl x1), some (.inl s.1)] [] s.2)) (fun s hs => ?_) h0
  obtain ⟨x2, σ⟩ := s
  refine px_runH (h - 1) ck_4004 [(4005, Sg_4005 (f_4005 (px_tb C) 160))] [(16, kp_4004_16 (fun y0 y1 y2 τ => y0 = x0 ∧ y1 = x1 ∧ (fun s : Int32 × px_M => px_W C k 16 [some (.inr (.inr (some x0))), some (.inl x1), some (.inl s.1)] [] s.2) (y2, τ)))] 80 3 (some .int) rfl rfl hC (px_sp1 (mf_4005 hn (by omega)) px_nosp) (by omega) (px_cut1 (kq_4004_16 (fun y0 y1 y2 τ hq => by obtain ⟨rfl, rfl, hq⟩ := hq; exact hq)) px_nocut) (fun G Jf hG hJf => ?_)
  replace hs : oW (F_4004_16 (px_tb C) x0 x1 x2 σ) _ := hs
  unfold F_4004_16 at hs
  by_cases hc0 : (nI 11) ≤ x2
  · replace hs := oW_t hs hc0
    simp (implicitDefEqProofs := false) only [↓hG, ↓hJf, ↓px_vc, ↓px_ex, ↓px_jp, ↓rq_gi_0, ↓rq_gi_S, ↓rq_gl_0, ↓rq_gl_S, ↓rq_gr_0, ↓rq_gr_S, ↓rq_s1_0, ↓rq_s1_1, ↓rq_s1_S, ↓rq_s2_0, ↓rq_s2_1, ↓rq_s2_S, ↓rq_nl_n, ↓rq_nl_i, ↓rq_nl_l, ↓rq_nl_r, ↓rq_i1_s, ↓rq_l1_s, ↓r1_s, ↓rq_q1_s, ↓rq_i2_s, ↓rq_l2_s, ↓rq_il_s, ↓rq_d0_s, ↓rq_d1_i, ↓rq_d1_r, ↓rq_d2_l, ↓rq_d2_ii, ↓rq_d2_ir, ↓px_pop, ↓px_sp, ↓px_rd, ↓px_rf, ↓pn_xf, ↓rq_pt_0, ↓rq_pt_1, ↓rq_pt_2, ↓rq_pt_3, ↓px_sw, ↓pn_SW, ↓px_ma, ↓reduceIte, Nat.reduceEqDiff, Nat.reduceAdd, Nat.reduceSub, ↓Option.toList_some, ↓Option.toList_none, ↓List.cons_append, ↓List.nil_append, ↓kI_s, ↓kJ_s, ↓kN_s, ↓kO_s, ↓kZ_s, ↓kE_s, ↓an_rfl, ↓bt1 n00, ↓bt2 n00, ↓bf1 n10, ↓bf2 n10, ↓an_sz0, ↓an_sz1, ↓an_sz2, ↓an_sz3, ↓an_sz4, ↓an_ri, ↓an_rb0, ↓an_rb1, ↓an_b0, ↓an_b1, true_and, ↓ai_0s, ↓al_0s, ↓av_0s, ↓aq_0s, ↓ai_1s, ↓al_1s, ↓av_1s, ↓aq_1s, ↓ai_2s, ↓al_2s, ↓av_2s, ↓aq_2s, ↓ai_3s, ↓al_3s, ↓av_3s, ↓aq_3s, ↓ai_4s, ↓al_4s, ↓av_4s, ↓aq_4s, ↓ai_5s, ↓al_5s, ↓av_5s, ↓aq_5s, ↓ai_6s, ↓al_6s, ↓av_6s, ↓aq_6s, ↓ai_7s, ↓al_7s, ↓av_7s, ↓aq_7s, ↓an_l3, ↓bk_4004, ↓Sg_4005, ↓kp_4004_16, ↓bt1 hc0, ↓bt2 hc0]
    rw [oW_some] at hs
    exact hs
  · replace hs := oW_f hs hc0
    obtain ⟨hc1, hs⟩ := oW_gx hs
    obtain ⟨q1, hc2, hs⟩ := oW_bx hs
    by_cases hc3 : q1.1 = nI 0
    · replace hs := oW_t hs hc3
      simp (implicitDefEqProofs := false) only [↓hG, ↓hJf, ↓px_vc, ↓px_ex, ↓px_jp, ↓rq_gi_0, ↓rq_gi_S, ↓rq_gl_0, ↓rq_gl_S, ↓rq_gr_0, ↓rq_gr_S, ↓rq_s1_0, ↓rq_s1_1, ↓rq_s1_S, ↓rq_s2_0, ↓rq_s2_1, ↓rq_s2_S, ↓rq_nl_n, ↓rq_nl_i, ↓rq_nl_l, ↓rq_nl_r, ↓rq_i1_s, ↓rq_l1_s, ↓r1_s, ↓rq_q1_s, ↓rq_i2_s, ↓rq_l2_s, ↓rq_il_s, ↓rq_d0_s, ↓rq_d1_i, ↓rq_d1_r, ↓rq_d2_l, ↓rq_d2_ii, ↓rq_d2_ir, ↓px_pop, ↓px_sp, ↓px_rd, ↓px_rf, ↓pn_xf, ↓rq_pt_0, ↓rq_pt_1, ↓rq_pt_2, ↓rq_pt_3, ↓px_sw, ↓pn_SW, ↓px_ma, ↓reduceIte, Nat.reduceEqDiff, Nat.reduceAdd, Nat.reduceSub, ↓Option.toList_some, ↓Option.toList_none, ↓List.cons_append, ↓List.nil_append, ↓kI_s, ↓kJ_s, ↓kN_s, ↓kO_s, ↓kZ_s, ↓kE_s, ↓an_rfl, ↓bt1 n00, ↓bt2 n00, ↓bf1 n10, ↓bf2 n10, ↓an_sz0, ↓an_sz1, ↓an_sz2, ↓an_sz3, ↓an_sz4, ↓an_ri, ↓an_rb0, ↓an_rb1, ↓an_b0, ↓an_b1, true_and, ↓ai_0s, ↓al_0s, ↓av_0s, ↓aq_0s, ↓ai_1s, ↓al_1s, ↓av_1s, ↓aq_1s, ↓ai_2s, ↓al_2s, ↓av_2s, ↓aq_2s, ↓ai_3s, ↓al_3s, ↓av_3s, ↓aq_3s, ↓ai_4s, ↓al_4s, ↓av_4s, ↓aq_4s, ↓ai_5s, ↓al_5s, ↓av_5s, ↓aq_5s, ↓ai_6s, ↓al_6s, ↓av_6s, ↓aq_6s, ↓ai_7s, ↓al_7s, ↓av_7s, ↓aq_7s, ↓an_l3, ↓bk_4004, ↓Sg_4005, ↓kp_4004_16, ↓bf1 hc0, ↓bf2 hc0, ↓an_t hc1, ↓an_rv hc1, ↓oW_e hc2, ↓bt1 hc3, ↓bt2 hc3]
      rw [oW_some] at hs
      exact hs
    · replace hs := oW_f hs hc3
      simp (implicitDefEqProofs := false) only [↓hG, ↓hJf, ↓px_vc, ↓px_ex, ↓px_jp, ↓rq_gi_0, ↓rq_gi_S, ↓rq_gl_0, ↓rq_gl_S, ↓rq_gr_0, ↓rq_gr_S, ↓rq_s1_0, ↓rq_s1_1, ↓rq_s1_S, ↓rq_s2_0, ↓rq_s2_1, ↓rq_s2_S, ↓rq_nl_n, ↓rq_nl_i, ↓rq_nl_l, ↓rq_nl_r, ↓rq_i1_s, ↓rq_l1_s, ↓r1_s, ↓rq_q1_s, ↓rq_i2_s, ↓rq_l2_s, ↓rq_il_s, ↓rq_d0_s, ↓rq_d1_i, ↓rq_d1_r, ↓rq_d2_l, ↓rq_d2_ii, ↓rq_d2_ir, ↓px_pop, ↓px_sp, ↓px_rd, ↓px_rf, ↓pn_xf, ↓rq_pt_0, ↓rq_pt_1, ↓rq_pt_2, ↓rq_pt_3, ↓px_sw, ↓pn_SW, ↓px_ma, ↓reduceIte, Nat.reduceEqDiff, Nat.reduceAdd, Nat.reduceSub, ↓Option.toList_some, ↓Option.toList_none, ↓List.cons_append, ↓List.nil_append, ↓kI_s, ↓kJ_s, ↓kN_s, ↓kO_s, ↓kZ_s, ↓kE_s, ↓an_rfl, ↓bt1 n00, ↓bt2 n00, ↓bf1 n10, ↓bf2 n10, ↓an_sz0, ↓an_sz1, ↓an_sz2, ↓an_sz3, ↓an_sz4, ↓an_ri, ↓an_rb0, ↓an_rb1, ↓an_b0, ↓an_b1, true_and, ↓ai_0s, ↓al_0s, ↓av_0s, ↓aq_0s, ↓ai_1s, ↓al_1s, ↓av_1s, ↓aq_1s, ↓ai_2s, ↓al_2s, ↓av_2s, ↓aq_2s, ↓ai_3s, ↓al_3s, ↓av_3s, ↓aq_3s, ↓ai_4s, ↓al_4s, ↓av_4s, ↓aq_4s, ↓ai_5s, ↓al_5s, ↓av_5s, ↓aq_5s, ↓ai_6s, ↓al_6s, ↓av_6s, ↓aq_6s, ↓ai_7s, ↓al_7s, ↓av_7s, ↓aq_7s, ↓an_l3, ↓bk_4004, ↓Sg_4005, ↓kp_4004_16, ↓bf1 hc0, ↓bf2 hc0, ↓an_t hc1, ↓an_rv hc1, ↓oW_e hc2, ↓bf1 hc3, ↓bf2 hc3]
      rw [oW_some] at hs
      exact hs
set_option maxHeartbeats 4000000 in
set_option maxRecDepth 100000 in
theorem mf_4004 {tab : px_T} (hn : px_nd tab) {h : Nat} (hh : 165 ≤ h) : px_Ok tab pn_i4004 h (Sg_4004 (f_4004 tab)) := by
  refine px_mth hn (by decide +kernel) (fun av σ k hS => ?_) (fun C hT hC av σ k hS => ?_)
  · obtain ⟨x0, av0, e0, h0⟩ := av_0p hS
    obtain ⟨x1, av1, e1, h1⟩ := ai_1p h0
    obtain ⟨ez, hs⟩ := h1
    subst ez
    subst e1
    subst e0
    exact Nat.le_of_ble_eq_true rfl
  · obtain ⟨x0, av0, e0, h0⟩ := av_0p hS
    obtain ⟨x1, av1, e1, h1⟩ := ai_1p h0
    obtain ⟨ez, hs⟩ := h1
    subst ez
    subst e1
    subst e0
    subst hT
    show px_W C k 0 [some (.inr (.inr (some x0))), some (.inl x1), none] [] σ
    refine px_runH (h - 1) ck_4004 [(11017, Sg_11017 (f_11017 (px_tb C)))] [(16, kp_4004_16 (fun y0 y1 y2 τ => oW (f_4004_16 (px_tb C) y0 y1 y2 τ) (fun q => k (some (.inl q.1)) q.2)))] 80 3 (some .int) rfl rfl hC (px_sp1 (mf_11017 hn (by omega)) px_nosp) (by omega) (px_cut1 (kq_4004_16 (fun y0 y1 y2 τ hq => by exact rl_4004_16 hn (by omega) hC (y2, τ) hq)) px_nocut) (fun G Jf hG hJf => ?_)
    unfold f_4004 at hs
    obtain ⟨hc0, hs⟩ := oW_gx hs
    obtain ⟨n1, hc1, hs⟩ := oW_bx hs
    obtain ⟨hc2, hs⟩ := oW_gx hs
    obtain ⟨r2, hc3, hs⟩ := oW_bx hs
    simp (implicitDefEqProofs := false) only [↓hG, ↓hJf, ↓px_vc, ↓px_ex, ↓px_jp, ↓rq_gi_0, ↓rq_gi_S, ↓rq_gl_0, ↓rq_gl_S, ↓rq_gr_0, ↓rq_gr_S, ↓rq_s1_0, ↓rq_s1_1, ↓rq_s1_S, ↓rq_s2_0, ↓rq_s2_1, ↓rq_s2_S, ↓rq_nl_n, ↓rq_nl_i, ↓rq_nl_l, ↓rq_nl_r, ↓rq_i1_s, ↓rq_l1_s, ↓r1_s, ↓rq_q1_s, ↓rq_i2_s, ↓rq_l2_s, ↓rq_il_s, ↓rq_d0_s, ↓rq_d1_i, ↓rq_d1_r, ↓rq_d2_l, ↓rq_d2_ii, ↓rq_d2_ir, ↓px_pop, ↓px_sp, ↓px_rd, ↓px_rf, ↓pn_xf, ↓rq_pt_0, ↓rq_pt_1, ↓rq_pt_2, ↓rq_pt_3, ↓px_sw, ↓pn_SW, ↓px_ma, ↓reduceIte, Nat.reduceEqDiff, Nat.reduceAdd, Nat.reduceSub, ↓Option.toList_some, ↓Option.toList_none, ↓List.cons_append, ↓List.nil_append, ↓kI_s, ↓kJ_s, ↓kN_s, ↓kO_s, ↓kZ_s, ↓kE_s, ↓an_rfl, ↓bt1 n00, ↓bt2 n00, ↓bf1 n10, ↓bf2 n10, ↓an_sz0, ↓an_sz1, ↓an_sz2, ↓an_sz3, ↓an_sz4, ↓an_ri, ↓an_rb0, ↓an_rb1, ↓an_b0, ↓an_b1, true_and, ↓ai_0s, ↓al_0s, ↓av_0s, ↓aq_0s, ↓ai_1s, ↓al_1s, ↓av_1s, ↓aq_1s, ↓ai_2s, ↓al_2s, ↓av_2s, ↓aq_2s, ↓ai_3s, ↓al_3s, ↓av_3s, ↓aq_3s, ↓ai_4s, ↓al_4s, ↓av_4s, ↓aq_4s, ↓ai_5s, ↓al_5s, ↓av_5s, ↓aq_5s, ↓ai_6s, ↓al_6s, ↓av_6s, ↓aq_6s, ↓ai_7s, ↓al_7s, ↓av_7s, ↓aq_7s, ↓an_l3, ↓bk_4004, ↓Sg_11017, ↓kp_4004_16, ↓an_t hc0, ↓an_rv hc0, ↓r1_e hc1, ↓av_0e hc1, ↓av_1e hc1, ↓av_2e hc1, ↓av_3e hc1, ↓an_t hc2, ↓an_rv hc2, ↓an_rvo hc1 hc2, ↓oW_e hc3]
    exact hs
def Sg_4003 (g : px_M → Nat → Option (Int32 × px_M)) : px_S := fun av σ k => av_0 av (fun x0 av => av = [] ∧ oW (g σ x0) (fun q => k (some (.inl q.1)) q.2))
/-- NoThree$Gossip.bestTeller()I -/
noncomputable def f_4003_97 (tab : px_T) (σ : px_M) (x0 : Nat) (x1 : Int32) (x2 : Int32) (x3 : Int32) (x4 : Int32) : Option ((Int32 × Int32 × Int32 × px_M) ⊕ (Int32 × px_M)) := some (.inl ((x2, x3, (x4 + (nI 1)), σ)))
noncomputable def f_4003_77 (tab : px_T) (σ : px_M) (x0 : Nat) (x1 : Int32) (x2 : Int32) (x3 : Int32) (x4 : Int32) : Option ((Int32 × Int32 × Int32 × px_M) ⊕ (Int32 × px_M)) := gd (px_obj (px_lay tab x0) 4) ((f_4004 tab σ x0 x4).bind fun q1 => if x3 ≤ q1.1 then (f_4003_97 tab q1.2 x0 x1 x2 x3 x4) else (f_4003_97 tab q1.2 x0 x1 x4 q1.1 x4))
noncomputable def F_4003_47 (tab : px_T) (x0 : Nat) (x1 : Int32) (x2 : Int32) (x3 : Int32) (x4 : Int32) (σ : px_M) : Option ((Int32 × Int32 × Int32 × px_M) ⊕ (Int32 × px_M)) := gd (px_obj (px_lay tab x0) 4) ((((σ).2.2 x0 3)).bind fun n1 => gd (px_obj (px_lay tab n1) 11) (if ((σ).1 n1 0) ≤ x4 then (some (.inr ((x2, σ)))) else ((f_11017 tab σ n1 x4 ((nI 11))).bind fun r2 => (f_21000 tab σ r2).bind fun r3 => bn (r3 = x1) (f_4003_97 tab σ x0 x1 x2 x3 x4) (f_4003_77 tab σ x0 x1 x2 x3 x4))))
noncomputable def f_4003_47 (tab : px_T) (x0 : Nat) (x1 : Int32) (x2 : Int32) (x3 : Int32) (x4 : Int32) (σ : px_M) : Option (Int32 × px_M) := lpO (fun s : Int32 × Int32 × Int32 × px_M => F_4003_47 tab x0 x1 s.1 s.2.1 s.2.2.1 s.2.2.2) (x2, x3, x4, σ)
theorem f_4003_47_eq (tab : px_T) (x0 : Nat) (x1 : Int32) (x2 : Int32) (x3 : Int32) (x4 : Int32) (σ : px_M) : f_4003_47 tab x0 x1 x2 x3 x4 σ = (F_4003_47 tab x0 x1 x2 x3 x4 σ).bind (Sum.elim (fun s => f_4003_47 tab x0 x1 s.1 s.2.1 s.2.2.1 s.2.2.2) some) := lpO_eq _ _
noncomputable def f_4003_33 (tab : px_T) (σ : px_M) (x0 : Nat) (x1 : Int32) (x2 : Int32) : Option ((Int32 × Int32) ⊕ (Int32 × px_M)) := some (.inl ((x1, (x2 + (nI 1)))))
noncomputable def F_4003_4 (tab : px_T) (σ : px_M) (x0 : Nat) (x1 : Int32) (x2 : Int32) : Option ((Int32 × Int32) ⊕ (Int32 × px_M)) := gd (px_obj (px_lay tab x0) 4) ((((σ).2.2 x0 3)).bind fun n1 => gd (px_obj (px_lay tab n1) 11) (if ((σ).1 n1 0) ≤ x2 then (Option.map Sum.inr (f_4003_47 tab x0 x1 ((-1)) ((nI 11)) ((nI 0)) σ)) else ((f_11017 tab σ n1 x2 ((nI 11))).bind fun r2 => (f_21000 tab σ r2).bind fun r3 => f_4003_33 tab σ x0 ((if x1 < r3 then r3 else x1)) x2)))
noncomputable def f_4003_4 (tab : px_T) (σ : px_M) (x0 : Nat) (x1 : Int32) (x2 : Int32) : Option (Int32 × px_M) := lpO (fun s : Int32 × Int32 => F_4003_4 tab σ x0 s.1 s.2) (x1, x2)
theorem f_4003_4_eq (tab : px_T) (σ : px_M) (x0 : Nat) (x1 : Int32) (x2 : Int32) : f_4003_4 tab σ x0 x1 x2 = (F_4003_4 tab σ x0 x1 x2).bind (Sum.elim (fun s => f_4003_4 tab σ x0 s.1 s.2) some) := lpO_eq _ _
noncomputable def f_4003 (tab : px_T) (σ : px_M) (x0 : Nat) : Option (Int32 × px_M) := f_4003_4 tab σ x0 ((nI 0)) ((nI 0))
def kp_4003_97 (Q : Nat → Int32 → Int32 → Int32 → Int32 → px_M → Prop) : px_P := fun ls st τ => st = [] ∧ kN ls (fun x0 ls => kI ls (fun x1 ls => kI ls (fun x2 ls => kI ls (fun x3 ls => kI ls (fun x4 ls => kZ ls (fun ls => kE ls (Q x0 x1 x2 x3 x4 τ)))))))
theorem kq_4003_97 {C : px_C} {k : Option px_V → px_M → Prop} {Q : Nat → Int32 → Int32 → Int32 → Int32 → px_M → Prop} (H : ∀ (x0 : Nat) (x1 : Int32) (x2 : Int32) (x3 : Int32) (x4 : Int32) (τ : px_M), Q x0 x1 x2 x3 x4 τ → ∀ (z5 : Option px_V), px_W C k 97 [some (.inr (.inr (some x0))), some (.inl x1), some (.inl x2), some (.inl x3), some (.inl x4), z5] [] τ) : ∀ ls st τ, kp_4003_97 Q ls st τ → px_W C k 97 ls st τ := by
  intro ls st τ hz
  obtain ⟨ez, h0⟩ := hz
  obtain ⟨x0, l0, e0, h1⟩ := kN_sp h0
  obtain ⟨x1, l1, e1, h2⟩ := kI_sp h1
  obtain ⟨x2, l2, e2, h3⟩ := kI_sp h2
  obtain ⟨x3, l3, e3, h4⟩ := kI_sp h3
  obtain ⟨x4, l4, e4, h5⟩ := kI_sp h4
  obtain ⟨z5, l5, e5, h6⟩ := kZ_sp h5
  obtain ⟨ey, hy⟩ := kE_sp h6
  subst ez
  subst ey
  subst e5
  subst e4
  subst e3
  subst e2
  subst e1
  subst e0
  exact H x0 x1 x2 x3 x4 τ hy z5
def kp_4003_77 (Q : Nat → Int32 → Int32 → Int32 → Int32 → px_M → Prop) : px_P := fun ls st τ => st = [] ∧ kN ls (fun x0 ls => kI ls (fun x1 ls => kI ls (fun x2 ls => kI ls (fun x3 ls => kI ls (fun x4 ls => kZ ls (fun ls => kE ls (Q x0 x1 x2 x3 x4 τ)))))))
theorem kq_4003_77 {C : px_C} {k : Option px_V → px_M → Prop} {Q : Nat → Int32 → Int32 → Int32 → Int32 → px_M → Prop} (H : ∀ (x0 : Nat) (x1 : Int32) (x2 : Int32) (x3 : Int32) (x4 : Int32) (τ : px_M), Q x0 x1 x2 x3 x4 τ → ∀ (z5 : Option px_V), px_W C k 77 [some (.inr (.inr (some x0))), some (.inl x1), some (.inl x2), some (.inl x3), some (.inl x4), z5] [] τ) : ∀ ls st τ, kp_4003_77 Q ls st τ → px_W C k 77 ls st τ := by
  intro ls st τ hz
  obtain ⟨ez, h0⟩ := hz
  obtain ⟨x0, l0, e0, h1⟩ := kN_sp h0
  obtain ⟨x1, l1, e1, h2⟩ := kI_sp h1
  obtain ⟨x2, l2, e2, h3⟩ := kI_sp h2
  obtain ⟨x3, l3, e3, h4⟩ := kI_sp h3
  obtain ⟨x4, l4, e4, h5⟩ := kI_sp h4
  obtain ⟨z5, l5, e5, h6⟩ := kZ_sp h5
  obtain ⟨ey, hy⟩ := kE_sp h6
  subst ez
  subst ey
  subst e5
  subst e4
  subst e3
  subst e2
  subst e1
  subst e0
  exact H x0 x1 x2 x3 x4 τ hy z5
def kp_4003_47 (Q : Nat → Int32 → Int32 → Int32 → Int32 → px_M → Prop) : px_P := fun ls st τ => st = [] ∧ kN ls (fun x0 ls => kI ls (fun x1 ls => kI ls (fun x2 ls => kI ls (fun x3 ls => kI ls (fun x4 ls => kZ ls (fun ls => kE ls (Q x0 x1 x2 x3 x4 τ)))))))
theorem kq_4003_47 {C : px_C} {k : Option px_V → px_M → Prop} {Q : Nat → Int32 → Int32 → Int32 → Int32 → px_M → Prop} (H : ∀ (x0 : Nat) (x1 : Int32) (x2 : Int32) (x3 : Int32) (x4 : Int32) (τ : px_M), Q x0 x1 x2 x3 x4 τ → ∀ (z5 : Option px_V), px_W C k 47 [some (.inr (.inr (some x0))), some (.inl x1), some (.inl x2), some (.inl x3), some (.inl x4), z5] [] τ) : ∀ ls st τ, kp_4003_47 Q ls st τ → px_W C k 47 ls st τ := by
  intro ls st τ hz
  obtain ⟨ez, h0⟩ := hz
  obtain ⟨x0, l0, e0, h1⟩ := kN_sp h0
  obtain ⟨x1, l1, e1, h2⟩ := kI_sp h1
  obtain ⟨x2, l2, e2, h3⟩ := kI_sp h2
  obtain ⟨x3, l3, e3, h4⟩ := kI_sp h3
  obtain ⟨x4, l4, e4, h5⟩ := kI_sp h4
  obtain ⟨z5, l5, e5, h6⟩ := kZ_sp h5
  obtain ⟨ey, hy⟩ := kE_sp h6
  subst ez
  subst ey
  subst e5
  subst e4
  subst e3
  subst e2
  subst e1
  subst e0
  exact H x0 x1 x2 x3 x4 τ hy z5
def kp_4003_33 (Q : Nat → Int32 → Int32 → px_M → Prop) : px_P := fun ls st τ => st = [] ∧ kN ls (fun x0 ls => kI ls (fun x1 ls => kI ls (fun x2 ls => kZ ls (fun ls => kZ ls (fun ls => kZ ls (fun ls => kE ls (Q x0 x1 x2 τ)))))))
theorem kq_4003_33 {C : px_C} {k : Option px_V → px_M → Prop} {Q : Nat → Int32 → Int32 → px_M → Prop} (H : ∀ (x0 : Nat) (x1 : Int32) (x2 : Int32) (τ : px_M), Q x0 x1 x2 τ → ∀ (z3 : Option px_V) (z4 : Option px_V) (z5 : Option px_V), px_W C k 33 [some (.inr (.inr (some x0))), some (.inl x1), some (.inl x2), z3, z4, z5] [] τ) : ∀ ls st τ, kp_4003_33 Q ls st τ → px_W C k 33 ls st τ := by
  intro ls st τ hz
  obtain ⟨ez, h0⟩ := hz
  obtain ⟨x0, l0, e0, h1⟩ := kN_sp h0
  obtain ⟨x1, l1, e1, h2⟩ := kI_sp h1
  obtain ⟨x2, l2, e2, h3⟩ := kI_sp h2
  obtain ⟨z3, l3, e3, h4⟩ := kZ_sp h3
  obtain ⟨z4, l4, e4, h5⟩ := kZ_sp h4
  obtain ⟨z5, l5, e5, h6⟩ := kZ_sp h5
  obtain ⟨ey, hy⟩ := kE_sp h6
  subst ez
  subst ey
  subst e5
  subst e4
  subst e3
  subst e2
  subst e1
  subst e0
  exact H x0 x1 x2 τ hy z3 z4 z5
def kp_4003_4 (Q : Nat → Int32 → Int32 → px_M → Prop) : px_P := fun ls st τ => st = [] ∧ kN ls (fun x0 ls => kI ls (fun x1 ls => kI ls (fun x2 ls => kZ ls (fun ls => kZ ls (fun ls => kZ ls (fun ls => kE ls (Q x0 x1 x2 τ)))))))
theorem kq_4003_4 {C : px_C} {k : Option px_V → px_M → Prop} {Q : Nat → Int32 → Int32 → px_M → Prop} (H : ∀ (x0 : Nat) (x1 : Int32) (x2 : Int32) (τ : px_M), Q x0 x1 x2 τ → ∀ (z3 : Option px_V) (z4 : Option px_V) (z5 : Option px_V), px_W C k 4 [some (.inr (.inr (some x0))), some (.inl x1), some (.inl x2), z3, z4, z5] [] τ) : ∀ ls st τ, kp_4003_4 Q ls st τ → px_W C k 4 ls st τ := by
  intro ls st τ hz
  obtain ⟨ez, h0⟩ := hz
  obtain ⟨x0, l0, e0, h1⟩ := kN_sp h0
  obtain ⟨x1, l1, e1, h2⟩ := kI_sp h1
  obtain ⟨x2, l2, e2, h3⟩ := kI_sp h2
  obtain ⟨z3, l3, e3, h4⟩ := kZ_sp h3
  obtain ⟨z4, l4, e4, h5⟩ := kZ_sp h4
  obtain ⟨z5, l5, e5, h6⟩ := kZ_sp h5
  obtain ⟨ey, hy⟩ := kE_sp h6
  subst ez
  subst ey
  subst e5
  subst e4
  subst e3
  subst e2
  subst e1
  subst e0
  exact H x0 x1 x2 τ hy z3 z4 z5
set_option maxHeartbeats 4000000 in
set_option maxRecDepth 100000 in
theorem rl_4003_97 {C : px_C} (hn : px_nd (px_tb C)) {h : Nat} (hh : 166 ≤ h) (hC : px_ok C pn_i4003 h) {k : Option px_V → px_M → Prop} {x0 : Nat} {x1 : Int32} {x2 : Int32} {x3 : Int32} {x4 : Int32} {σ : px_M} (hs : oW (f_4003_97 (px_tb C) σ x0 x1 x2 x3 x4) (Sum.elim (fun s : Int32 × Int32 × Int32 × px_M => ∀ (z5 : Option px_V), px_W C k 47 [some (.inr (.inr (some x0))), some (.inl x1), some (.inl s.1), some (.inl s.2.1), some (.inl s.2.2.1), z5] [] s.2.2.2) (fun q => k (some (.inl q.1)) q.2))) : ∀ (z5 : Option px_V), px_W C k 97 [some (.inr (.inr (some x0))), some (.inl x1), some (.inl x2), some (.inl x3), some (.inl x4), z5] [] σ := by
  intro z5
  refine px_runH (h - 1) ck_4003 [] [(47, kp_4003_47 (fun y0 y1 y2 y3 y4 τ => y0 = x0 ∧ y1 = x1 ∧ (fun s : Int32 × Int32 × Int32 × px_M => ∀ (z5 : Option px_V), px_W C k 47 [some (.inr (.inr (some x0))), some (.inl x1), some (.inl s.1), some (.inl s.2.1), some (.inl s.2.2.1), z5] [] s.2.2.2) (y2, y3, y4, τ)))] 80 6 (some .int) rfl rfl hC px_nosp (by omega) (px_cut1 (kq_4003_47 (fun y0 y1 y2 y3 y4 τ hq => by obtain ⟨rfl, rfl, hq⟩ := hq; exact hq)) px_nocut) (fun G Jf hG hJf => ?_)
  unfold f_4003_97 at hs
  simp (implicitDefEqProofs := false) only [↓hG, ↓hJf, ↓px_vc, ↓px_ex, ↓px_jp, ↓rq_gi_0, ↓rq_gi_S, ↓rq_gl_0, ↓rq_gl_S, ↓rq_gr_0, ↓rq_gr_S, ↓rq_s1_0, ↓rq_s1_1, ↓rq_s1_S, ↓rq_s2_0, ↓rq_s2_1, ↓rq_s2_S, ↓rq_nl_n, ↓rq_nl_i, ↓rq_nl_l, ↓rq_nl_r, ↓rq_i1_s, ↓rq_l1_s, ↓r1_s, ↓rq_q1_s, ↓rq_i2_s, ↓rq_l2_s, ↓rq_il_s, ↓rq_d0_s, ↓rq_d1_i, ↓rq_d1_r, ↓rq_d2_l, ↓rq_d2_ii, ↓rq_d2_ir, ↓px_pop, ↓px_sp, ↓px_rd, ↓px_rf, ↓pn_xf, ↓rq_pt_0, ↓rq_pt_1, ↓rq_pt_2, ↓rq_pt_3, ↓px_sw, ↓pn_SW, ↓px_ma, ↓reduceIte, Nat.reduceEqDiff, Nat.reduceAdd, Nat.reduceSub, ↓Option.toList_some, ↓Option.toList_none, ↓List.cons_append, ↓List.nil_append, ↓kI_s, ↓kJ_s, ↓kN_s, ↓kO_s, ↓kZ_s, ↓kE_s, ↓an_rfl, ↓bt1 n00, ↓bt2 n00, ↓bf1 n10, ↓bf2 n10, ↓an_sz0, ↓an_sz1, ↓an_sz2, ↓an_sz3, ↓an_sz4, ↓an_ri, ↓an_rb0, ↓an_rb1, ↓an_b0, ↓an_b1, true_and, ↓ai_0s, ↓al_0s, ↓av_0s, ↓aq_0s, ↓ai_1s, ↓al_1s, ↓av_1s, ↓aq_1s, ↓ai_2s, ↓al_2s, ↓av_2s, ↓aq_2s, ↓ai_3s, ↓al_3s, ↓av_3s, ↓aq_3s, ↓ai_4s, ↓al_4s, ↓av_4s, ↓aq_4s, ↓ai_5s, ↓al_5s, ↓av_5s, ↓aq_5s, ↓ai_6s, ↓al_6s, ↓av_6s, ↓aq_6s, ↓ai_7s, ↓al_7s, ↓av_7s, ↓aq_7s, ↓an_l6, ↓bk_4003, ↓kp_4003_47]
  rw [oW_some] at hs
  exact hs
set_option maxHeartbeats 4000000 in
set_option maxRecDepth 100000 in
theorem rl_4003_77 {C : px_C} (hn : px_nd (px_tb C)) {h : Nat} (hh : 166 ≤ h) (hC : px_ok C pn_i4003 h) {k : Option px_V → px_M → Prop} {x0 : Nat} {x1 : Int32} {x2 : Int32} {x3 : Int32} {x4 : Int32} {σ : px_M} (hs : oW (f_4003_77 (px_tb C) σ x0 x1 x2 x3 x4) (Sum.elim (fun s : Int32 × Int32 × Int32 × px_M => ∀ (z5 : Option px_V), px_W C k 47 [some (.inr (.inr (some x0))), some (.inl x1), some (.inl s.1), some (.inl s.2.1), some (.inl s.2.2.1), z5] [] s.2.2.2) (fun q => k (some (.inl q.1)) q.2))) : ∀ (z5 : Option px_V), px_W C k 77 [some (.inr (.inr (some x0))), some (.inl x1), some (.inl x2), some (.inl x3), some (.inl x4), z5] [] σ := by
  intro z5
  refine px_runH (h - 1) ck_4003 [(4004, Sg_4004 (f_4004 (px_tb C)))] [(97, kp_4003_97 (fun y0 y1 y2 y3 y4 τ => y0 = x0 ∧ y1 = x1 ∧ oW (f_4003_97 (px_tb C) τ y0 y1 y2 y3 y4) (Sum.elim (fun s : Int32 × Int32 × Int32 × px_M => ∀ (z5 : Option px_V), px_W C k 47 [some (.inr (.inr (some x0))), some (.inl x1), some (.inl s.1), some (.inl s.2.1), some (.inl s.2.2.1), z5] [] s.2.2.2) (fun q => k (some (.inl q.1)) q.2))))] 80 6 (some .int) rfl rfl hC (px_sp1 (mf_4004 hn (by omega)) px_nosp) (by omega) (px_cut1 (kq_4003_97 (fun y0 y1 y2 y3 y4 τ hq => by obtain ⟨rfl, rfl, hq⟩ := hq; exact rl_4003_97 hn (by omega) hC  hq)) px_nocut) (fun G Jf hG hJf => ?_)
  unfold f_4003_77 at hs
  obtain ⟨hc0, hs⟩ := oW_gx hs
  obtain ⟨q1, hc1, hs⟩ := oW_bx hs
  by_cases hc2 : x3 ≤ q1.1
  · replace hs := oW_t hs hc2
    simp (implicitDefEqProofs := false) only [↓hG, ↓hJf, ↓px_vc, ↓px_ex, ↓px_jp, ↓rq_gi_0, ↓rq_gi_S, ↓rq_gl_0, ↓rq_gl_S, ↓rq_gr_0, ↓rq_gr_S, ↓rq_s1_0, ↓rq_s1_1, ↓rq_s1_S, ↓rq_s2_0, ↓rq_s2_1, ↓rq_s2_S, ↓rq_nl_n, ↓rq_nl_i, ↓rq_nl_l, ↓rq_nl_r, ↓rq_i1_s, ↓rq_l1_s, ↓r1_s, ↓rq_q1_s, ↓rq_i2_s, ↓rq_l2_s, ↓rq_il_s, ↓rq_d0_s, ↓rq_d1_i, ↓rq_d1_r, ↓rq_d2_l, ↓rq_d2_ii, ↓rq_d2_ir, ↓px_pop, ↓px_sp, ↓px_rd, ↓px_rf, ↓pn_xf, ↓rq_pt_0, ↓rq_pt_1, ↓rq_pt_2, ↓rq_pt_3, ↓px_sw, ↓pn_SW, ↓px_ma, ↓reduceIte, Nat.reduceEqDiff, Nat.reduceAdd, Nat.reduceSub, ↓Option.toList_some, ↓Option.toList_none, ↓List.cons_append, ↓List.nil_append, ↓kI_s, ↓kJ_s, ↓kN_s, ↓kO_s, ↓kZ_s, ↓kE_s, ↓an_rfl, ↓bt1 n00, ↓bt2 n00, ↓bf1 n10, ↓bf2 n10, ↓an_sz0, ↓an_sz1, ↓an_sz2, ↓an_sz3, ↓an_sz4, ↓an_ri, ↓an_rb0, ↓an_rb1, ↓an_b0, ↓an_b1, true_and, ↓ai_0s, ↓al_0s, ↓av_0s, ↓aq_0s, ↓ai_1s, ↓al_1s, ↓av_1s, ↓aq_1s, ↓ai_2s, ↓al_2s, ↓av_2s, ↓aq_2s, ↓ai_3s, ↓al_3s, ↓av_3s, ↓aq_3s, ↓ai_4s, ↓al_4s, ↓av_4s, ↓aq_4s, ↓ai_5s, ↓al_5s, ↓av_5s, ↓aq_5s, ↓ai_6s, ↓al_6s, ↓av_6s, ↓aq_6s, ↓ai_7s, ↓al_7s, ↓av_7s, ↓aq_7s, ↓an_l6, ↓bk_4003, ↓Sg_4004, ↓kp_4003_97, ↓an_t hc0, ↓an_rv hc0, ↓oW_e hc1, ↓bt1 hc2, ↓bt2 hc2]
    exact hs
  · replace hs := oW_f hs hc2
    simp (implicitDefEqProofs := false) only [↓hG, ↓hJf, ↓px_vc, ↓px_ex, ↓px_jp, ↓rq_gi_0, ↓rq_gi_S, ↓rq_gl_0, ↓rq_gl_S, ↓rq_gr_0, ↓rq_gr_S, ↓rq_s1_0, ↓rq_s1_1, ↓rq_s1_S, ↓rq_s2_0, ↓rq_s2_1, ↓rq_s2_S, ↓rq_nl_n, ↓rq_nl_i, ↓rq_nl_l, ↓rq_nl_r, ↓rq_i1_s, ↓rq_l1_s, ↓r1_s, ↓rq_q1_s, ↓rq_i2_s, ↓rq_l2_s, ↓rq_il_s, ↓rq_d0_s, ↓rq_d1_i, ↓rq_d1_r, ↓rq_d2_l, ↓rq_d2_ii, ↓rq_d2_ir, ↓px_pop, ↓px_sp, ↓px_rd, ↓px_rf, ↓pn_xf, ↓rq_pt_0, ↓rq_pt_1, ↓rq_pt_2, ↓rq_pt_3, ↓px_sw, ↓pn_SW, ↓px_ma, ↓reduceIte, Nat.reduceEqDiff, Nat.reduceAdd, Nat.reduceSub, ↓Option.toList_some, ↓Option.toList_none, ↓List.cons_append, ↓List.nil_append, ↓kI_s, ↓kJ_s, ↓kN_s, ↓kO_s, ↓kZ_s, ↓kE_s, ↓an_rfl, ↓bt1 n00, ↓bt2 n00, ↓bf1 n10, ↓bf2 n10, ↓an_sz0, ↓an_sz1, ↓an_sz2, ↓an_sz3, ↓an_sz4, ↓an_ri, ↓an_rb0, ↓an_rb1, ↓an_b0, ↓an_b1, true_and, ↓ai_0s, ↓al_0s, ↓av_0s, ↓aq_0s, ↓ai_1s, ↓al_1s, ↓av_1s, ↓aq_1s, ↓ai_2s, ↓al_2s, ↓av_2s, ↓aq_2s, ↓ai_3s, ↓al_3s, ↓av_3s, ↓aq_3s, ↓ai_4s, ↓al_4s, ↓av_4s, ↓aq_4s, ↓ai_5s, ↓al_5s, ↓av_5s, ↓aq_5s, ↓ai_6s, ↓al_6s, ↓av_6s, ↓aq_6s, ↓ai_7s, ↓al_7s, ↓av_7s, ↓aq_7s, ↓an_l6, ↓bk_4003, ↓Sg_4004, ↓kp_4003_97, ↓an_t hc0, ↓an_rv hc0, ↓oW_e hc1, ↓bf1 hc2, ↓bf2 hc2]
    exact hs
set_option maxHeartbeats 4000000 in
set_option maxRecDepth 100000 in
theorem rl_4003_47 {C : px_C} (hn : px_nd (px_tb C)) {h : Nat} (hh : 166 ≤ h) (hC : px_ok C pn_i4003 h) {k : Option px_V → px_M → Prop} {x0 : Nat} {x1 : Int32} : ∀ s : Int32 × Int32 × Int32 × px_M, oW (f_4003_47 (px_tb C) x0 x1 s.1 s.2.1 s.2.2.1 s.2.2.2) (fun q => k (some (.inl q.1)) q.2) → (fun s : Int32 × Int32 × Int32 × px_M => ∀ (z5 : Option px_V), px_W C k 47 [some (.inr (.inr (some x0))), some (.inl x1), some (.inl s.1), some (.inl s.2.1), some (.inl s.2.2.1), z5] [] s.2.2.2) s := by
  intro s h0
  refine lpO_sound (P := (fun s : Int32 × Int32 × Int32 × px_M => ∀ (z5 : Option px_V), px_W C k 47 [some (.inr (.inr (some x0))), some (.inl x1), some (.inl s.1), some (.inl s.2.1), some (.inl s.2.2.1), z5] [] s.2.2.2)) (fun s hs => ?_) h0
  obtain ⟨x2, x3, x4, σ⟩ := s
  intro z5
  refine px_runH (h - 1) ck_4003 [(11017, Sg_11017 (f_11017 (px_tb C))), (21000, Sg_21000 (f_21000 (px_tb C)))] [(77, kp_4003_77 (fun y0 y1 y2 y3 y4 τ => y0 = x0 ∧ y1 = x1 ∧ oW (f_4003_77 (px_tb C) τ y0 y1 y2 y3 y4) (Sum.elim (fun s : Int32 × Int32 × Int32 × px_M => ∀ (z5 : Option px_V), px_W C k 47 [some (.inr (.inr (some x0))), some (.inl x1), some (.inl s.1), some (.inl s.2.1), some (.inl s.2.2.1), z5] [] s.2.2.2) (fun q => k (some (.inl q.1)) q.2)))), (97, kp_4003_97 (fun y0 y1 y2 y3 y4 τ => y0 = x0 ∧ y1 = x1 ∧ oW (f_4003_97 (px_tb C) τ y0 y1 y2 y3 y4) (Sum.elim (fun s : Int32 × Int32 × Int32 × px_M => ∀ (z5 : Option px_V), px_W C k 47 [some (.inr (.inr (some x0))), some (.inl x1), some (.inl s.1), some (.inl s.2.1), some (.inl s.2.2.1), z5] [] s.2.2.2) (fun q => k (some (.inl q.1)) q.2))))] 80 6 (some .int) rfl rfl hC (px_sp1 (mf_11017 hn (by omega)) (px_sp1 (mf_21000 hn (by omega)) px_nosp)) (by omega) (px_cut1 (kq_4003_77 (fun y0 y1 y2 y3 y4 τ hq => by obtain ⟨rfl, rfl, hq⟩ := hq; exact rl_4003_77 hn (by omega) hC  hq)) (px_cut1 (kq_4003_97 (fun y0 y1 y2 y3 y4 τ hq => by obtain ⟨rfl, rfl, hq⟩ := hq; exact rl_4003_97 hn (by omega) hC  hq)) px_nocut)) (fun G Jf hG hJf => ?_)
  replace hs : oW (F_4003_47 (px_tb C) x0 x1 x2 x3 x4 σ) _ := hs
  unfold F_4003_47 at hs
  obtain ⟨hc0, hs⟩ := oW_gx hs
  obtain ⟨n1, hc1, hs⟩ := oW_bx hs
  obtain ⟨hc2, hs⟩ := oW_gx hs
  by_cases hc3 : ((σ).1 n1 0) ≤ x4
  · replace hs := oW_t hs hc3
    simp (implicitDefEqProofs := false) only [↓hG, ↓hJf, ↓px_vc, ↓px_ex, ↓px_jp, ↓rq_gi_0, ↓rq_gi_S, ↓rq_gl_0, ↓rq_gl_S, ↓rq_gr_0, ↓rq_gr_S, ↓rq_s1_0, ↓rq_s1_1, ↓rq_s1_S, ↓rq_s2_0, ↓rq_s2_1, ↓rq_s2_S, ↓rq_nl_n, ↓rq_nl_i, ↓rq_nl_l, ↓rq_nl_r, ↓rq_i1_s, ↓rq_l1_s, ↓r1_s, ↓rq_q1_s, ↓rq_i2_s, ↓rq_l2_s, ↓rq_il_s, ↓rq_d0_s, ↓rq_d1_i, ↓rq_d1_r, ↓rq_d2_l, ↓rq_d2_ii, ↓rq_d2_ir, ↓px_pop, ↓px_sp, ↓px_rd, ↓px_rf, ↓pn_xf, ↓rq_pt_0, ↓rq_pt_1, ↓rq_pt_2, ↓rq_pt_3, ↓px_sw, ↓pn_SW, ↓px_ma, ↓reduceIte, Nat.reduceEqDiff, Nat.reduceAdd, Nat.reduceSub, ↓Option.toList_some, ↓Option.toList_none, ↓List.cons_append, ↓List.nil_append, ↓kI_s, ↓kJ_s, ↓kN_s, ↓kO_s, ↓kZ_s, ↓kE_s, ↓an_rfl, ↓bt1 n00, ↓bt2 n00, ↓bf1 n10, ↓bf2 n10, ↓an_sz0, ↓an_sz1, ↓an_sz2, ↓an_sz3, ↓an_sz4, ↓an_ri, ↓an_rb0, ↓an_rb1, ↓an_b0, ↓an_b1, true_and, ↓ai_0s, ↓al_0s, ↓av_0s, ↓aq_0s, ↓ai_1s, ↓al_1s, ↓av_1s, ↓aq_1s, ↓ai_2s, ↓al_2s, ↓av_2s, ↓aq_2s, ↓ai_3s, ↓al_3s, ↓av_3s, ↓aq_3s, ↓ai_4s, ↓al_4s, ↓av_4s, ↓aq_4s, ↓ai_5s, ↓al_5s, ↓av_5s, ↓aq_5s, ↓ai_6s, ↓al_6s, ↓av_6s, ↓aq_6s, ↓ai_7s, ↓al_7s, ↓av_7s, ↓aq_7s, ↓an_l6, ↓bk_4003, ↓Sg_11017, ↓Sg_21000, ↓kp_4003_77, ↓kp_4003_97, ↓an_t hc0, ↓an_rv hc0, ↓r1_e hc1, ↓av_0e hc1, ↓av_1e hc1, ↓av_2e hc1, ↓av_3e hc1, ↓an_t hc2, ↓an_rv hc2, ↓an_rvo hc1 hc2, ↓bt1 hc3, ↓bt2 hc3]
    rw [oW_some] at hs
    exact hs
  · replace hs := oW_f hs hc3
    obtain ⟨r2, hc4, hs⟩ := oW_bx hs
    obtain ⟨r3, hc5, hs⟩ := oW_bx hs
    by_cases hc6 : r3 = x1
    · replace hs := bW_t hs hc6
      simp (implicitDefEqProofs := false) only [↓hG, ↓hJf, ↓px_vc, ↓px_ex, ↓px_jp, ↓rq_gi_0, ↓rq_gi_S, ↓rq_gl_0, ↓rq_gl_S, ↓rq_gr_0, ↓rq_gr_S, ↓rq_s1_0, ↓rq_s1_1, ↓rq_s1_S, ↓rq_s2_0, ↓rq_s2_1, ↓rq_s2_S, ↓rq_nl_n, ↓rq_nl_i, ↓rq_nl_l, ↓rq_nl_r, ↓rq_i1_s, ↓rq_l1_s, ↓r1_s, ↓rq_q1_s, ↓rq_i2_s, ↓rq_l2_s, ↓rq_il_s, ↓rq_d0_s, ↓rq_d1_i, ↓rq_d1_r, ↓rq_d2_l, ↓rq_d2_ii, ↓rq_d2_ir, ↓px_pop, ↓px_sp, ↓px_rd, ↓px_rf, ↓pn_xf, ↓rq_pt_0, ↓rq_pt_1, ↓rq_pt_2, ↓rq_pt_3, ↓px_sw, ↓pn_SW, ↓px_ma, ↓reduceIte, Nat.reduceEqDiff, Nat.reduceAdd, Nat.reduceSub, ↓Option.toList_some, ↓Option.toList_none, ↓List.cons_append, ↓List.nil_append, ↓kI_s, ↓kJ_s, ↓kN_s, ↓kO_s, ↓kZ_s, ↓kE_s, ↓an_rfl, ↓bt1 n00, ↓bt2 n00, ↓bf1 n10, ↓bf2 n10, ↓an_sz0, ↓an_sz1, ↓an_sz2, ↓an_sz3, ↓an_sz4, ↓an_ri, ↓an_rb0, ↓an_rb1, ↓an_b0, ↓an_b1, true_and, ↓ai_0s, ↓al_0s, ↓av_0s, ↓aq_0s, ↓ai_1s, ↓al_1s, ↓av_1s, ↓aq_1s, ↓ai_2s, ↓al_2s, ↓av_2s, ↓aq_2s, ↓ai_3s, ↓al_3s, ↓av_3s, ↓aq_3s, ↓ai_4s, ↓al_4s, ↓av_4s, ↓aq_4s, ↓ai_5s, ↓al_5s, ↓av_5s, ↓aq_5s, ↓ai_6s, ↓al_6s, ↓av_6s, ↓aq_6s, ↓ai_7s, ↓al_7s, ↓av_7s, ↓aq_7s, ↓an_l6, ↓bk_4003, ↓Sg_11017, ↓Sg_21000, ↓kp_4003_77, ↓kp_4003_97, ↓an_t hc0, ↓an_rv hc0, ↓r1_e hc1, ↓av_0e hc1, ↓av_1e hc1, ↓av_2e hc1, ↓av_3e hc1, ↓an_t hc2, ↓an_rv hc2, ↓an_rvo hc1 hc2, ↓bf1 hc3, ↓bf2 hc3, ↓oW_e hc4, ↓oW_e hc5, ↓bt1 hc6, ↓bt2 hc6]
      exact hs
    · replace hs := bW_f hs hc6
      simp (implicitDefEqProofs := false) only [↓hG, ↓hJf, ↓px_vc, ↓px_ex, ↓px_jp, ↓rq_gi_0, ↓rq_gi_S, ↓rq_gl_0, ↓rq_gl_S, ↓rq_gr_0, ↓rq_gr_S, ↓rq_s1_0, ↓rq_s1_1, ↓rq_s1_S, ↓rq_s2_0, ↓rq_s2_1, ↓rq_s2_S, ↓rq_nl_n, ↓rq_nl_i, ↓rq_nl_l, ↓rq_nl_r, ↓rq_i1_s, ↓rq_l1_s, ↓r1_s, ↓rq_q1_s, ↓rq_i2_s, ↓rq_l2_s, ↓rq_il_s, ↓rq_d0_s, ↓rq_d1_i, ↓rq_d1_r, ↓rq_d2_l, ↓rq_d2_ii, ↓rq_d2_ir, ↓px_pop, ↓px_sp, ↓px_rd, ↓px_rf, ↓pn_xf, ↓rq_pt_0, ↓rq_pt_1, ↓rq_pt_2, ↓rq_pt_3, ↓px_sw, ↓pn_SW, ↓px_ma, ↓reduceIte, Nat.reduceEqDiff, Nat.reduceAdd, Nat.reduceSub, ↓Option.toList_some, ↓Option.toList_none, ↓List.cons_append, ↓List.nil_append, ↓kI_s, ↓kJ_s, ↓kN_s, ↓kO_s, ↓kZ_s, ↓kE_s, ↓an_rfl, ↓bt1 n00, ↓bt2 n00, ↓bf1 n10, ↓bf2 n10, ↓an_sz0, ↓an_sz1, ↓an_sz2, ↓an_sz3, ↓an_sz4, ↓an_ri, ↓an_rb0, ↓an_rb1, ↓an_b0, ↓an_b1, true_and, ↓ai_0s, ↓al_0s, ↓av_0s, ↓aq_0s, ↓ai_1s, ↓al_1s, ↓av_1s, ↓aq_1s, ↓ai_2s, ↓al_2s, ↓av_2s, ↓aq_2s, ↓ai_3s, ↓al_3s, ↓av_3s, ↓aq_3s, ↓ai_4s, ↓al_4s, ↓av_4s, ↓aq_4s, ↓ai_5s, ↓al_5s, ↓av_5s, ↓aq_5s, ↓ai_6s, ↓al_6s, ↓av_6s, ↓aq_6s, ↓ai_7s, ↓al_7s, ↓av_7s, ↓aq_7s, ↓an_l6, ↓bk_4003, ↓Sg_11017, ↓Sg_21000, ↓kp_4003_77, ↓kp_4003_97, ↓an_t hc0, ↓an_rv hc0, ↓r1_e hc1, ↓av_0e hc1, ↓av_1e hc1, ↓av_2e hc1, ↓av_3e hc1, ↓an_t hc2, ↓an_rv hc2, ↓an_rvo hc1 hc2, ↓bf1 hc3, ↓bf2 hc3, ↓oW_e hc4, ↓oW_e hc5, ↓bf1 hc6, ↓bf2 hc6]
      exact hs
set_option maxHeartbeats 4000000 in
set_option maxRecDepth 100000 in
theorem rl_4003_33 {C : px_C} (hn : px_nd (px_tb C)) {h : Nat} (hh : 166 ≤ h) (hC : px_ok C pn_i4003 h) {k : Option px_V → px_M → Prop} {x0 : Nat} {x1 : Int32} {x2 : Int32} {σ : px_M} (hs : oW (f_4003_33 (px_tb C) σ x0 x1 x2) (Sum.elim (fun s : Int32 × Int32 => ∀ (z3 : Option px_V) (z4 : Option px_V) (z5 : Option px_V), px_W C k 4 [some (.inr (.inr (some x0))), some (.inl s.1), some (.inl s.2), z3, z4, z5] [] σ) (fun q => k (some (.inl q.1)) q.2))) : ∀ (z3 : Option px_V) (z4 : Option px_V) (z5 : Option px_V), px_W C k 33 [some (.inr (.inr (some x0))), some (.inl x1), some (.inl x2), z3, z4, z5] [] σ := by
  intro z3 z4 z5
  refine px_runH (h - 1) ck_4003 [] [(4, kp_4003_4 (fun y0 y1 y2 τ => y0 = x0 ∧ τ = σ ∧ (fun s : Int32 × Int32 => ∀ (z3 : Option px_V) (z4 : Option px_V) (z5 : Option px_V), px_W C k 4 [some (.inr (.inr (some x0))), some (.inl s.1), some (.inl s.2), z3, z4, z5] [] σ) (y1, y2)))] 80 6 (some .int) rfl rfl hC px_nosp (by omega) (px_cut1 (kq_4003_4 (fun y0 y1 y2 τ hq => by obtain ⟨rfl, rfl, hq⟩ := hq; exact hq)) px_nocut) (fun G Jf hG hJf => ?_)
  unfold f_4003_33 at hs
  simp (implicitDefEqProofs := false) only [↓hG, ↓hJf, ↓px_vc, ↓px_ex, ↓px_jp, ↓rq_gi_0, ↓rq_gi_S, ↓rq_gl_0, ↓rq_gl_S, ↓rq_gr_0, ↓rq_gr_S, ↓rq_s1_0, ↓rq_s1_1, ↓rq_s1_S, ↓rq_s2_0, ↓rq_s2_1, ↓rq_s2_S, ↓rq_nl_n, ↓rq_nl_i, ↓rq_nl_l, ↓rq_nl_r, ↓rq_i1_s, ↓rq_l1_s, ↓r1_s, ↓rq_q1_s, ↓rq_i2_s, ↓rq_l2_s, ↓rq_il_s, ↓rq_d0_s, ↓rq_d1_i, ↓rq_d1_r, ↓rq_d2_l, ↓rq_d2_ii, ↓rq_d2_ir, ↓px_pop, ↓px_sp, ↓px_rd, ↓px_rf, ↓pn_xf, ↓rq_pt_0, ↓rq_pt_1, ↓rq_pt_2, ↓rq_pt_3, ↓px_sw, ↓pn_SW, ↓px_ma, ↓reduceIte, Nat.reduceEqDiff, Nat.reduceAdd, Nat.reduceSub, ↓Option.toList_some, ↓Option.toList_none, ↓List.cons_append, ↓List.nil_append, ↓kI_s, ↓kJ_s, ↓kN_s, ↓kO_s, ↓kZ_s, ↓kE_s, ↓an_rfl, ↓bt1 n00, ↓bt2 n00, ↓bf1 n10, ↓bf2 n10, ↓an_sz0, ↓an_sz1, ↓an_sz2, ↓an_sz3, ↓an_sz4, ↓an_ri, ↓an_rb0, ↓an_rb1, ↓an_b0, ↓an_b1, true_and, ↓ai_0s, ↓al_0s, ↓av_0s, ↓aq_0s, ↓ai_1s, ↓al_1s, ↓av_1s, ↓aq_1s, ↓ai_2s, ↓al_2s, ↓av_2s, ↓aq_2s, ↓ai_3s, ↓al_3s, ↓av_3s, ↓aq_3s, ↓ai_4s, ↓al_4s, ↓av_4s, ↓aq_4s, ↓ai_5s, ↓al_5s, ↓av_5s, ↓aq_5s, ↓ai_6s, ↓al_6s, ↓av_6s, ↓aq_6s, ↓ai_7s, ↓al_7s, ↓av_7s, ↓aq_7s, ↓an_l6, ↓bk_4003, ↓kp_4003_4]
  rw [oW_some] at hs
  exact hs
set_option maxHeartbeats 4000000 in
set_option maxRecDepth 100000 in
theorem rl_4003_4 {C : px_C} (hn : px_nd (px_tb C)) {h : Nat} (hh : 166 ≤ h) (hC : px_ok C pn_i4003 h) {k : Option px_V → px_M → Prop} {x0 : Nat} {σ : px_M} : ∀ s : Int32 × Int32, oW (f_4003_4 (px_tb C) σ x0 s.1 s.2) (fun q => k (some (.inl q.1)) q.2) → (fun s : Int32 × Int32 => ∀ (z3 : Option px_V) (z4 : Option px_V) (z5 : Option px_V), px_W C k 4 [some (.inr (.inr (some x0))), some (.inl s.1), some (.inl s.2), z3, z4, z5] [] σ) s := by
  intro s h0
  refine lpO_sound (P := (fun s : Int32 × Int32 => ∀ (z3 : Option px_V) (z4 : Option px_V) (z5 : Option px_V), px_W C k 4 [some (.inr (.inr (some x0))), some (.inl s.1), some (.inl s.2), z3, z4, z5] [] σ)) (fun s hs => ?_) h0
  obtain ⟨x1, x2⟩ := s
  intro z3 z4 z5
  refine px_runH (h - 1) ck_4003 [(11017, Sg_11017 (f_11017 (px_tb C))), (21000, Sg_21000 (f_21000 (px_tb C)))] [(33, kp_4003_33 (fun y0 y1 y2 τ => y0 = x0 ∧ τ = σ ∧ oW (f_4003_33 (px_tb C) τ y0 y1 y2) (Sum.elim (fun s : Int32 × Int32 => ∀ (z3 : Option px_V) (z4 : Option px_V) (z5 : Option px_V), px_W C k 4 [some (.inr (.inr (some x0))), some (.inl s.1), some (.inl s.2), z3, z4, z5] [] σ) (fun q => k (some (.inl q.1)) q.2)))), (47, kp_4003_47 (fun y0 y1 y2 y3 y4 τ => oW (f_4003_47 (px_tb C) y0 y1 y2 y3 y4 τ) (fun q => k (some (.inl q.1)) q.2)))] 80 6 (some .int) rfl rfl hC (px_sp1 (mf_11017 hn (by omega)) (px_sp1 (mf_21000 hn (by omega)) px_nosp)) (by omega) (px_cut1 (kq_4003_33 (fun y0 y1 y2 τ hq => by obtain ⟨rfl, rfl, hq⟩ := hq; exact rl_4003_33 hn (by omega) hC  hq)) (px_cut1 (kq_4003_47 (fun y0 y1 y2 y3 y4 τ hq => by exact rl_4003_47 hn (by omega) hC (y2, y3, y4, τ) hq)) px_nocut)) (fun G Jf hG hJf => ?_)
  replace hs : oW (F_4003_4 (px_tb C) σ x0 x1 x2) _ := hs
  unfold F_4003_4 at hs
  obtain ⟨hc0, hs⟩ := oW_gx hs
  obtain ⟨n1, hc1, hs⟩ := oW_bx hs
  obtain ⟨hc2, hs⟩ := oW_gx hs
  by_cases hc3 : ((σ).1 n1 0) ≤ x2
  · replace hs := oW_t hs hc3
    simp (implicitDefEqProofs := false) only [↓hG, ↓hJf, ↓px_vc, ↓px_ex, ↓px_jp, ↓rq_gi_0, ↓rq_gi_S, ↓rq_gl_0, ↓rq_gl_S, ↓rq_gr_0, ↓rq_gr_S, ↓rq_s1_0, ↓rq_s1_1, ↓rq_s1_S, ↓rq_s2_0, ↓rq_s2_1, ↓rq_s2_S, ↓rq_nl_n, ↓rq_nl_i, ↓rq_nl_l, ↓rq_nl_r, ↓rq_i1_s, ↓rq_l1_s, ↓r1_s, ↓rq_q1_s, ↓rq_i2_s, ↓rq_l2_s, ↓rq_il_s, ↓rq_d0_s, ↓rq_d1_i, ↓rq_d1_r, ↓rq_d2_l, ↓rq_d2_ii, ↓rq_d2_ir, ↓px_pop, ↓px_sp, ↓px_rd, ↓px_rf, ↓pn_xf, ↓rq_pt_0, ↓rq_pt_1, ↓rq_pt_2, ↓rq_pt_3, ↓px_sw, ↓pn_SW, ↓px_ma, ↓reduceIte, Nat.reduceEqDiff, Nat.reduceAdd, Nat.reduceSub, ↓Option.toList_some, ↓Option.toList_none, ↓List.cons_append, ↓List.nil_append, ↓kI_s, ↓kJ_s, ↓kN_s, ↓kO_s, ↓kZ_s, ↓kE_s, ↓an_rfl, ↓bt1 n00, ↓bt2 n00, ↓bf1 n10, ↓bf2 n10, ↓an_sz0, ↓an_sz1, ↓an_sz2, ↓an_sz3, ↓an_sz4, ↓an_ri, ↓an_rb0, ↓an_rb1, ↓an_b0, ↓an_b1, true_and, ↓ai_0s, ↓al_0s, ↓av_0s, ↓aq_0s, ↓ai_1s, ↓al_1s, ↓av_1s, ↓aq_1s, ↓ai_2s, ↓al_2s, ↓av_2s, ↓aq_2s, ↓ai_3s, ↓al_3s, ↓av_3s, ↓aq_3s, ↓ai_4s, ↓al_4s, ↓av_4s, ↓aq_4s, ↓ai_5s, ↓al_5s, ↓av_5s, ↓aq_5s, ↓ai_6s, ↓al_6s, ↓av_6s, ↓aq_6s, ↓ai_7s, ↓al_7s, ↓av_7s, ↓aq_7s, ↓an_l6, ↓bk_4003, ↓Sg_11017, ↓Sg_21000, ↓kp_4003_33, ↓kp_4003_47, ↓an_t hc0, ↓an_rv hc0, ↓r1_e hc1, ↓av_0e hc1, ↓av_1e hc1, ↓av_2e hc1, ↓av_3e hc1, ↓an_t hc2, ↓an_rv hc2, ↓an_rvo hc1 hc2, ↓bt1 hc3, ↓bt2 hc3]
    simp only [oW_map] at hs
    exact hs
  · replace hs := oW_f hs hc3
    obtain ⟨r2, hc4, hs⟩ := oW_bx hs
    obtain ⟨r3, hc5, hs⟩ := oW_bx hs
    simp (implicitDefEqProofs := false) only [↓hG, ↓hJf, ↓px_vc, ↓px_ex, ↓px_jp, ↓rq_gi_0, ↓rq_gi_S, ↓rq_gl_0, ↓rq_gl_S, ↓rq_gr_0, ↓rq_gr_S, ↓rq_s1_0, ↓rq_s1_1, ↓rq_s1_S, ↓rq_s2_0, ↓rq_s2_1, ↓rq_s2_S, ↓rq_nl_n, ↓rq_nl_i, ↓rq_nl_l, ↓rq_nl_r, ↓rq_i1_s, ↓rq_l1_s, ↓r1_s, ↓rq_q1_s, ↓rq_i2_s, ↓rq_l2_s, ↓rq_il_s, ↓rq_d0_s, ↓rq_d1_i, ↓rq_d1_r, ↓rq_d2_l, ↓rq_d2_ii, ↓rq_d2_ir, ↓px_pop, ↓px_sp, ↓px_rd, ↓px_rf, ↓pn_xf, ↓rq_pt_0, ↓rq_pt_1, ↓rq_pt_2, ↓rq_pt_3, ↓px_sw, ↓pn_SW, ↓px_ma, ↓reduceIte, Nat.reduceEqDiff, Nat.reduceAdd, Nat.reduceSub, ↓Option.toList_some, ↓Option.toList_none, ↓List.cons_append, ↓List.nil_append, ↓kI_s, ↓kJ_s, ↓kN_s, ↓kO_s, ↓kZ_s, ↓kE_s, ↓an_rfl, ↓bt1 n00, ↓bt2 n00, ↓bf1 n10, ↓bf2 n10, ↓an_sz0, ↓an_sz1, ↓an_sz2, ↓an_sz3, ↓an_sz4, ↓an_ri, ↓an_rb0, ↓an_rb1, ↓an_b0, ↓an_b1, true_and, ↓ai_0s, ↓al_0s, ↓av_0s, ↓aq_0s, ↓ai_1s, ↓al_1s, ↓av_1s, ↓aq_1s, ↓ai_2s, ↓al_2s, ↓av_2s, ↓aq_2s, ↓ai_3s, ↓al_3s, ↓av_3s, ↓aq_3s, ↓ai_4s, ↓al_4s, ↓av_4s, ↓aq_4s, ↓ai_5s, ↓al_5s, ↓av_5s, ↓aq_5s, ↓ai_6s, ↓al_6s, ↓av_6s, ↓aq_6s, ↓ai_7s, ↓al_7s, ↓av_7s, ↓aq_7s, ↓an_l6, ↓bk_4003, ↓Sg_11017, ↓Sg_21000, ↓kp_4003_33, ↓kp_4003_47, ↓an_t hc0, ↓an_rv hc0, ↓r1_e hc1, ↓av_0e hc1, ↓av_1e hc1, ↓av_2e hc1, ↓av_3e hc1, ↓an_t hc2, ↓an_rv hc2, ↓an_rvo hc1 hc2, ↓bf1 hc3, ↓bf2 hc3, ↓oW_e hc4, ↓oW_e hc5]
    exact hs
set_option maxHeartbeats 4000000 in
set_option maxRecDepth 100000 in
theorem mf_4003 {tab : px_T} (hn : px_nd tab) {h : Nat} (hh : 166 ≤ h) : px_Ok tab pn_i4003 h (Sg_4003 (f_4003 tab)) := by
  refine px_mth hn (by decide +kernel) (fun av σ k hS => ?_) (fun C hT hC av σ k hS => ?_)
  · obtain ⟨x0, av0, e0, h0⟩ := av_0p hS
    obtain ⟨ez, hs⟩ := h0
    subst ez
    subst e0
    exact Nat.le_of_ble_eq_true rfl
  · obtain ⟨x0, av0, e0, h0⟩ := av_0p hS
    obtain ⟨ez, hs⟩ := h0
    subst ez
    subst e0
    subst hT
    show px_W C k 0 [some (.inr (.inr (some x0))), none, none, none, none, none] [] σ
    refine px_runH (h - 1) ck_4003 [] [(4, kp_4003_4 (fun y0 y1 y2 τ => oW (f_4003_4 (px_tb C) τ y0 y1 y2) (fun q => k (some (.inl q.1)) q.2)))] 80 6 (some .int) rfl rfl hC px_nosp (by omega) (px_cut1 (kq_4003_4 (fun y0 y1 y2 τ hq => by exact rl_4003_4 hn (by omega) hC (y1, y2) hq)) px_nocut) (fun G Jf hG hJf => ?_)
    unfold f_4003 at hs
    simp (implicitDefEqProofs := false) only [↓hG, ↓hJf, ↓px_vc, ↓px_ex, ↓px_jp, ↓rq_gi_0, ↓rq_gi_S, ↓rq_gl_0, ↓rq_gl_S, ↓rq_gr_0, ↓rq_gr_S, ↓rq_s1_0, ↓rq_s1_1, ↓rq_s1_S, ↓rq_s2_0, ↓rq_s2_1, ↓rq_s2_S, ↓rq_nl_n, ↓rq_nl_i, ↓rq_nl_l, ↓rq_nl_r, ↓rq_i1_s, ↓rq_l1_s, ↓r1_s, ↓rq_q1_s, ↓rq_i2_s, ↓rq_l2_s, ↓rq_il_s, ↓rq_d0_s, ↓rq_d1_i, ↓rq_d1_r, ↓rq_d2_l, ↓rq_d2_ii, ↓rq_d2_ir, ↓px_pop, ↓px_sp, ↓px_rd, ↓px_rf, ↓pn_xf, ↓rq_pt_0, ↓rq_pt_1, ↓rq_pt_2, ↓rq_pt_3, ↓px_sw, ↓pn_SW, ↓px_ma, ↓reduceIte, Nat.reduceEqDiff, Nat.reduceAdd, Nat.reduceSub, ↓Option.toList_some, ↓Option.toList_none, ↓List.cons_append, ↓List.nil_append, ↓kI_s, ↓kJ_s, ↓kN_s, ↓kO_s, ↓kZ_s, ↓kE_s, ↓an_rfl, ↓bt1 n00, ↓bt2 n00, ↓bf1 n10, ↓bf2 n10, ↓an_sz0, ↓an_sz1, ↓an_sz2, ↓an_sz3, ↓an_sz4, ↓an_ri, ↓an_rb0, ↓an_rb1, ↓an_b0, ↓an_b1, true_and, ↓ai_0s, ↓al_0s, ↓av_0s, ↓aq_0s, ↓ai_1s, ↓al_1s, ↓av_1s, ↓aq_1s, ↓ai_2s, ↓al_2s, ↓av_2s, ↓aq_2s, ↓ai_3s, ↓al_3s, ↓av_3s, ↓aq_3s, ↓ai_4s, ↓al_4s, ↓av_4s, ↓aq_4s, ↓ai_5s, ↓al_5s, ↓av_5s, ↓aq_5s, ↓ai_6s, ↓al_6s, ↓av_6s, ↓aq_6s, ↓ai_7s, ↓al_7s, ↓av_7s, ↓aq_7s, ↓an_l6, ↓bk_4003, ↓kp_4003_4]
    exact hs
def Sg_5005 (g : px_M → Int32 → Int32 → Option (Int64)) : px_S := fun av σ k => ai_0 av (fun x0 av => ai_1 av (fun x1 av => av = [] ∧ oW (g σ x0 x1) (fun r => k (some (.inr (.inl r))) σ)))
/-- NoThree$Healer.bitOf(II)J -/
noncomputable def f_5005_17 (tab : px_T) (σ : px_M) (x2 : Int32) : Option (Int64) := some (((lN 1) <<< (((nI 54) - x2).toInt64 &&& 63)))
noncomputable def f_5005 (tab : px_T) (σ : px_M) (x0 : Int32) (x1 : Int32) : Option (Int64) := gd (¬ (nI 2) = nI 0) (f_5005_17 tab σ ((((((x0 * (((nI 22) - x0) - (nI 1))) / (nI 2)) + x1) - x0) - (nI 1))))
def kp_5005_17 (Q : Int32 → px_M → Prop) : px_P := fun ls st τ => st = [] ∧ kZ ls (fun ls => kZ ls (fun ls => kI ls (fun x2 ls => kE ls (Q x2 τ))))
theorem kq_5005_17 {C : px_C} {k : Option px_V → px_M → Prop} {Q : Int32 → px_M → Prop} (H : ∀ (x2 : Int32) (τ : px_M), Q x2 τ → ∀ (z0 : Option px_V) (z1 : Option px_V), px_W C k 17 [z0, z1, some (.inl x2)] [] τ) : ∀ ls st τ, kp_5005_17 Q ls st τ → px_W C k 17 ls st τ := by
  intro ls st τ hz
  obtain ⟨ez, h0⟩ := hz
  obtain ⟨z0, l0, e0, h1⟩ := kZ_sp h0
  obtain ⟨z1, l1, e1, h2⟩ := kZ_sp h1
  obtain ⟨x2, l2, e2, h3⟩ := kI_sp h2
  obtain ⟨ey, hy⟩ := kE_sp h3
  subst ez
  subst ey
  subst e2
  subst e1
  subst e0
  exact H x2 τ hy z0 z1
set_option maxHeartbeats 4000000 in
set_option maxRecDepth 100000 in
theorem rl_5005_17 {C : px_C} (hn : px_nd (px_tb C)) {h : Nat} (hh : 1 ≤ h) (hC : px_ok C pn_i5005 h) {k : Option px_V → px_M → Prop} {x2 : Int32} {σ : px_M} (hs : oW (f_5005_17 (px_tb C) σ x2) (fun r => k (some (.inr (.inl r))) σ)) : ∀ (z0 : Option px_V) (z1 : Option px_V), px_W C k 17 [z0, z1, some (.inl x2)] [] σ := by
  intro z0 z1
  refine px_runH (h - 1) ck_5005 [] [] 80 3 (some .long) rfl rfl hC px_nosp (by omega) px_nocut (fun G Jf hG hJf => ?_)
  unfold f_5005_17 at hs
  simp (implicitDefEqProofs := false) only [↓hG, ↓hJf, ↓px_vc, ↓px_ex, ↓px_jp, ↓rq_gi_0, ↓rq_gi_S, ↓rq_gl_0, ↓rq_gl_S, ↓rq_gr_0, ↓rq_gr_S, ↓rq_s1_0, ↓rq_s1_1, ↓rq_s1_S, ↓rq_s2_0, ↓rq_s2_1, ↓rq_s2_S, ↓rq_nl_n, ↓rq_nl_i, ↓rq_nl_l, ↓rq_nl_r, ↓rq_i1_s, ↓rq_l1_s, ↓r1_s, ↓rq_q1_s, ↓rq_i2_s, ↓rq_l2_s, ↓rq_il_s, ↓rq_d0_s, ↓rq_d1_i, ↓rq_d1_r, ↓rq_d2_l, ↓rq_d2_ii, ↓rq_d2_ir, ↓px_pop, ↓px_sp, ↓px_rd, ↓px_rf, ↓pn_xf, ↓rq_pt_0, ↓rq_pt_1, ↓rq_pt_2, ↓rq_pt_3, ↓px_sw, ↓pn_SW, ↓px_ma, ↓reduceIte, Nat.reduceEqDiff, Nat.reduceAdd, Nat.reduceSub, ↓Option.toList_some, ↓Option.toList_none, ↓List.cons_append, ↓List.nil_append, ↓kI_s, ↓kJ_s, ↓kN_s, ↓kO_s, ↓kZ_s, ↓kE_s, ↓an_rfl, ↓bt1 n00, ↓bt2 n00, ↓bf1 n10, ↓bf2 n10, ↓an_sz0, ↓an_sz1, ↓an_sz2, ↓an_sz3, ↓an_sz4, ↓an_ri, ↓an_rb0, ↓an_rb1, ↓an_b0, ↓an_b1, true_and, ↓ai_0s, ↓al_0s, ↓av_0s, ↓aq_0s, ↓ai_1s, ↓al_1s, ↓av_1s, ↓aq_1s, ↓ai_2s, ↓al_2s, ↓av_2s, ↓aq_2s, ↓ai_3s, ↓al_3s, ↓av_3s, ↓aq_3s, ↓ai_4s, ↓al_4s, ↓av_4s, ↓aq_4s, ↓ai_5s, ↓al_5s, ↓av_5s, ↓aq_5s, ↓ai_6s, ↓al_6s, ↓av_6s, ↓aq_6s, ↓ai_7s, ↓al_7s, ↓av_7s, ↓aq_7s, ↓an_l3, ↓bk_5005]
  rw [oW_some] at hs
  exact hs
set_option maxHeartbeats 4000000 in
set_option maxRecDepth 100000 in
theorem mf_5005 {tab : px_T} (hn : px_nd tab) {h : Nat} (hh : 1 ≤ h) : px_Ok tab pn_i5005 h (Sg_5005 (f_5005 tab)) := by
  refine px_mth hn (by decide +kernel) (fun av σ k hS => ?_) (fun C hT hC av σ k hS => ?_)
  · obtain ⟨x0, av0, e0, h0⟩ := ai_0p hS
    obtain ⟨x1, av1, e1, h1⟩ := ai_1p h0
    obtain ⟨ez, hs⟩ := h1
    subst ez
    subst e1
    subst e0
    exact Nat.le_of_ble_eq_true rfl
  · obtain ⟨x0, av0, e0, h0⟩ := ai_0p hS
    obtain ⟨x1, av1, e1, h1⟩ := ai_1p h0
    obtain ⟨ez, hs⟩ := h1
    subst ez
    subst e1
    subst e0
    subst hT
    show px_W C k 0 [some (.inl x0), some (.inl x1), none] [] σ
    refine px_runH (h - 1) ck_5005 [] [(17, kp_5005_17 (fun y2 τ => τ = σ ∧ oW (f_5005_17 (px_tb C) τ y2) (fun r => k (some (.inr (.inl r))) σ)))] 80 3 (some .long) rfl rfl hC px_nosp (by omega) (px_cut1 (kq_5005_17 (fun y2 τ hq => by obtain ⟨rfl, hq⟩ := hq; exact rl_5005_17 hn (by omega) hC  hq)) px_nocut) (fun G Jf hG hJf => ?_)
    unfold f_5005 at hs
    obtain ⟨hc0, hs⟩ := oW_gx hs
    simp (implicitDefEqProofs := false) only [↓hG, ↓hJf, ↓px_vc, ↓px_ex, ↓px_jp, ↓rq_gi_0, ↓rq_gi_S, ↓rq_gl_0, ↓rq_gl_S, ↓rq_gr_0, ↓rq_gr_S, ↓rq_s1_0, ↓rq_s1_1, ↓rq_s1_S, ↓rq_s2_0, ↓rq_s2_1, ↓rq_s2_S, ↓rq_nl_n, ↓rq_nl_i, ↓rq_nl_l, ↓rq_nl_r, ↓rq_i1_s, ↓rq_l1_s, ↓r1_s, ↓rq_q1_s, ↓rq_i2_s, ↓rq_l2_s, ↓rq_il_s, ↓rq_d0_s, ↓rq_d1_i, ↓rq_d1_r, ↓rq_d2_l, ↓rq_d2_ii, ↓rq_d2_ir, ↓px_pop, ↓px_sp, ↓px_rd, ↓px_rf, ↓pn_xf, ↓rq_pt_0, ↓rq_pt_1, ↓rq_pt_2, ↓rq_pt_3, ↓px_sw, ↓pn_SW, ↓px_ma, ↓reduceIte, Nat.reduceEqDiff, Nat.reduceAdd, Nat.reduceSub, ↓Option.toList_some, ↓Option.toList_none, ↓List.cons_append, ↓List.nil_append, ↓kI_s, ↓kJ_s, ↓kN_s, ↓kO_s, ↓kZ_s, ↓kE_s, ↓an_rfl, ↓bt1 n00, ↓bt2 n00, ↓bf1 n10, ↓bf2 n10, ↓an_sz0, ↓an_sz1, ↓an_sz2, ↓an_sz3, ↓an_sz4, ↓an_ri, ↓an_rb0, ↓an_rb1, ↓an_b0, ↓an_b1, true_and, ↓ai_0s, ↓al_0s, ↓av_0s, ↓aq_0s, ↓ai_1s, ↓al_1s, ↓av_1s, ↓aq_1s, ↓ai_2s, ↓al_2s, ↓av_2s, ↓aq_2s, ↓ai_3s, ↓al_3s, ↓av_3s, ↓aq_3s, ↓ai_4s, ↓al_4s, ↓av_4s, ↓aq_4s, ↓ai_5s, ↓al_5s, ↓av_5s, ↓aq_5s, ↓ai_6s, ↓al_6s, ↓av_6s, ↓aq_6s, ↓ai_7s, ↓al_7s, ↓av_7s, ↓aq_7s, ↓an_l3, ↓bk_5005, ↓kp_5005_17, ↓an_t hc0]
    exact hs
def Sg_11010 (g : px_M → Nat → Int32 → Int32 → Option (px_M)) : px_S := fun av σ k => av_0 av (fun x0 av => ai_1 av (fun x1 av => ai_2 av (fun x2 av => av = [] ∧ oW (g σ x0 x1 x2) (fun τ => k none τ))))
/-- NoThree$Town.part(II)V -/
noncomputable def f_11010_23 (tab : px_T) (σ : px_M) (x0 : Nat) (x1 : Int32) (x2 : Int32) : Option (px_M) := gd (px_obj (px_lay tab x0) 11) ((((σ).2.2 x0 1)).bind fun n1 => oA (px_lay tab n1) fun t2 l3 => gd (t2 = 0 ∨ t2 = 11) (gd (vp_in x2 l3) (gd (t2 = 0) (some ((px_wi σ n1 (x2).toNatClampNeg ((px_av t2 σ n1 (x2).toNatClampNeg) &&& (((nI 1) <<< (x1 &&& 31)) ^^^ (-1)))))))))
noncomputable def f_11010 (tab : px_T) (σ : px_M) (x0 : Nat) (x1 : Int32) (x2 : Int32) : Option (px_M) := gd (px_obj (px_lay tab x0) 11) ((f_11003 tab σ x0 x1 x2).bind fun r1 => if r1 = nI 0 then (some (σ)) else ((((σ).2.2 x0 1)).bind fun n2 => oA (px_lay tab n2) fun t3 l4 => gd (t3 = 0 ∨ t3 = 11) (gd (vp_in x1 l4) (gd (t3 = 0) (f_11010_23 tab ((px_wi σ n2 (x1).toNatClampNeg ((px_av t3 σ n2 (x1).toNatClampNeg) &&& (((nI 1) <<< (x2 &&& 31)) ^^^ (-1))))) x0 x1 x2)))))
def kp_11010_23 (Q : Nat → Int32 → Int32 → px_M → Prop) : px_P := fun ls st τ => st = [] ∧ kN ls (fun x0 ls => kI ls (fun x1 ls => kI ls (fun x2 ls => kE ls (Q x0 x1 x2 τ))))
theorem kq_11010_23 {C : px_C} {k : Option px_V → px_M → Prop} {Q : Nat → Int32 → Int32 → px_M → Prop} (H : ∀ (x0 : Nat) (x1 : Int32) (x2 : Int32) (τ : px_M), Q x0 x1 x2 τ → px_W C k 23 [some (.inr (.inr (some x0))), some (.inl x1), some (.inl x2)] [] τ) : ∀ ls st τ, kp_11010_23 Q ls st τ → px_W C k 23 ls st τ := by
  intro ls st τ hz
  obtain ⟨ez, h0⟩ := hz
  obtain ⟨x0, l0, e0, h1⟩ := kN_sp h0
  obtain ⟨x1, l1, e1, h2⟩ := kI_sp h1
  obtain ⟨x2, l2, e2, h3⟩ := kI_sp h2
  obtain ⟨ey, hy⟩ := kE_sp h3
  subst ez
  subst ey
  subst e2
  subst e1
  subst e0
  exact H x0 x1 x2 τ hy
set_option maxHeartbeats 4000000 in
set_option maxRecDepth 100000 in
theorem rl_11010_23 {C : px_C} (hn : px_nd (px_tb C)) {h : Nat} (hh : 3 ≤ h) (hC : px_ok C pn_i11010 h) {k : Option px_V → px_M → Prop} {x0 : Nat} {x1 : Int32} {x2 : Int32} {σ : px_M} (hs : oW (f_11010_23 (px_tb C) σ x0 x1 x2) (fun τ => k none τ)) : px_W C k 23 [some (.inr (.inr (some x0))), some (.inl x1), some (.inl x2)] [] σ := by
  refine px_runH (h - 1) ck_11010 [] [] 80 3 none rfl rfl hC px_nosp (by omega) px_nocut (fun G Jf hG hJf => ?_)
  unfold f_11010_23 at hs
  obtain ⟨hc0, hs⟩ := oW_gx hs
  obtain ⟨n1, hc1, hs⟩ := oW_bx hs
  obtain ⟨t2, l3, hc2, hs⟩ := oW_ax hs
  obtain ⟨hc3, hs⟩ := oW_gx hs
  obtain ⟨hc4, hs⟩ := oW_gx hs
  obtain ⟨hc5, hs⟩ := oW_gx hs
  simp (implicitDefEqProofs := false) only [↓hG, ↓hJf, ↓px_vc, ↓px_ex, ↓px_jp, ↓rq_gi_0, ↓rq_gi_S, ↓rq_gl_0, ↓rq_gl_S, ↓rq_gr_0, ↓rq_gr_S, ↓rq_s1_0, ↓rq_s1_1, ↓rq_s1_S, ↓rq_s2_0, ↓rq_s2_1, ↓rq_s2_S, ↓rq_nl_n, ↓rq_nl_i, ↓rq_nl_l, ↓rq_nl_r, ↓rq_i1_s, ↓rq_l1_s, ↓r1_s, ↓rq_q1_s, ↓rq_i2_s, ↓rq_l2_s, ↓rq_il_s, ↓rq_d0_s, ↓rq_d1_i, ↓rq_d1_r, ↓rq_d2_l, ↓rq_d2_ii, ↓rq_d2_ir, ↓px_pop, ↓px_sp, ↓px_rd, ↓px_rf, ↓pn_xf, ↓rq_pt_0, ↓rq_pt_1, ↓rq_pt_2, ↓rq_pt_3, ↓px_sw, ↓pn_SW, ↓px_ma, ↓reduceIte, Nat.reduceEqDiff, Nat.reduceAdd, Nat.reduceSub, ↓Option.toList_some, ↓Option.toList_none, ↓List.cons_append, ↓List.nil_append, ↓kI_s, ↓kJ_s, ↓kN_s, ↓kO_s, ↓kZ_s, ↓kE_s, ↓an_rfl, ↓bt1 n00, ↓bt2 n00, ↓bf1 n10, ↓bf2 n10, ↓an_sz0, ↓an_sz1, ↓an_sz2, ↓an_sz3, ↓an_sz4, ↓an_ri, ↓an_rb0, ↓an_rb1, ↓an_b0, ↓an_b1, true_and, ↓ai_0s, ↓al_0s, ↓av_0s, ↓aq_0s, ↓ai_1s, ↓al_1s, ↓av_1s, ↓aq_1s, ↓ai_2s, ↓al_2s, ↓av_2s, ↓aq_2s, ↓ai_3s, ↓al_3s, ↓av_3s, ↓aq_3s, ↓ai_4s, ↓al_4s, ↓av_4s, ↓aq_4s, ↓ai_5s, ↓al_5s, ↓av_5s, ↓aq_5s, ↓ai_6s, ↓al_6s, ↓av_6s, ↓aq_6s, ↓ai_7s, ↓al_7s, ↓av_7s, ↓aq_7s, ↓an_l3, ↓bk_11010, ↓an_t hc0, ↓an_rv hc0, ↓r1_e hc1, ↓av_0e hc1, ↓av_1e hc1, ↓av_2e hc1, ↓av_3e hc1, ↓ar_e hc2, ↓an_t hc3, ↓an_t hc4, ↓an_t hc5]
  rw [oW_some] at hs
  exact hs
set_option maxHeartbeats 4000000 in
set_option maxRecDepth 100000 in
theorem mf_11010 {tab : px_T} (hn : px_nd tab) {h : Nat} (hh : 3 ≤ h) : px_Ok tab pn_i11010 h (Sg_11010 (f_11010 tab)) := by
  refine px_mth hn (by decide +kernel) (fun av σ k hS => ?_) (fun C hT hC av σ k hS => ?_)
  · obtain ⟨x0, av0, e0, h0⟩ := av_0p hS
    obtain ⟨x1, av1, e1, h1⟩ := ai_1p h0
    obtain ⟨x2, av2, e2, h2⟩ := ai_2p h1
    obtain ⟨ez, hs⟩ := h2
    subst ez
    subst e2
    subst e1
    subst e0
    exact Nat.le_of_ble_eq_true rfl
  · obtain ⟨x0, av0, e0, h0⟩ := av_0p hS
    obtain ⟨x1, av1, e1, h1⟩ := ai_1p h0
    obtain ⟨x2, av2, e2, h2⟩ := ai_2p h1
    obtain ⟨ez, hs⟩ := h2
    subst ez
    subst e2
    subst e1
    subst e0
    subst hT
    show px_W C k 0 [some (.inr (.inr (some x0))), some (.inl x1), some (.inl x2)] [] σ
    refine px_runH (h - 1) ck_11010 [(11003, Sg_11003 (f_11003 (px_tb C)))] [(23, kp_11010_23 (fun y0 y1 y2 τ => oW (f_11010_23 (px_tb C) τ y0 y1 y2) (fun τ => k none τ)))] 80 3 none rfl rfl hC (px_sp1 (mf_11003 hn (by omega)) px_nosp) (by omega) (px_cut1 (kq_11010_23 (fun y0 y1 y2 τ hq => by exact rl_11010_23 hn (by omega) hC  hq)) px_nocut) (fun G Jf hG hJf => ?_)
    unfold f_11010 at hs
    obtain ⟨hc0, hs⟩ := oW_gx hs
    obtain ⟨r1, hc1, hs⟩ := oW_bx hs
    by_cases hc2 : r1 = nI 0
    · replace hs := oW_t hs hc2
      simp (implicitDefEqProofs := false) only [↓hG, ↓hJf, ↓px_vc, ↓px_ex, ↓px_jp, ↓rq_gi_0, ↓rq_gi_S, ↓rq_gl_0, ↓rq_gl_S, ↓rq_gr_0, ↓rq_gr_S, ↓rq_s1_0, ↓rq_s1_1, ↓rq_s1_S, ↓rq_s2_0, ↓rq_s2_1, ↓rq_s2_S, ↓rq_nl_n, ↓rq_nl_i, ↓rq_nl_l, ↓rq_nl_r, ↓rq_i1_s, ↓rq_l1_s, ↓r1_s, ↓rq_q1_s, ↓rq_i2_s, ↓rq_l2_s, ↓rq_il_s, ↓rq_d0_s, ↓rq_d1_i, ↓rq_d1_r, ↓rq_d2_l, ↓rq_d2_ii, ↓rq_d2_ir, ↓px_pop, ↓px_sp, ↓px_rd, ↓px_rf, ↓pn_xf, ↓rq_pt_0, ↓rq_pt_1, ↓rq_pt_2, ↓rq_pt_3, ↓px_sw, ↓pn_SW, ↓px_ma, ↓reduceIte, Nat.reduceEqDiff, Nat.reduceAdd, Nat.reduceSub, ↓Option.toList_some, ↓Option.toList_none, ↓List.cons_append, ↓List.nil_append, ↓kI_s, ↓kJ_s, ↓kN_s, ↓kO_s, ↓kZ_s, ↓kE_s, ↓an_rfl, ↓bt1 n00, ↓bt2 n00, ↓bf1 n10, ↓bf2 n10, ↓an_sz0, ↓an_sz1, ↓an_sz2, ↓an_sz3, ↓an_sz4, ↓an_ri, ↓an_rb0, ↓an_rb1, ↓an_b0, ↓an_b1, true_and, ↓ai_0s, ↓al_0s, ↓av_0s, ↓aq_0s, ↓ai_1s, ↓al_1s, ↓av_1s, ↓aq_1s, ↓ai_2s, ↓al_2s, ↓av_2s, ↓aq_2s, ↓ai_3s, ↓al_3s, ↓av_3s, ↓aq_3s, ↓ai_4s, ↓al_4s, ↓av_4s, ↓aq_4s, ↓ai_5s, ↓al_5s, ↓av_5s, ↓aq_5s, ↓ai_6s, ↓al_6s, ↓av_6s, ↓aq_6s, ↓ai_7s, ↓al_7s, ↓av_7s, ↓aq_7s, ↓an_l3, ↓bk_11010, ↓Sg_11003, ↓kp_11010_23, ↓an_t hc0, ↓an_rv hc0, ↓oW_e hc1, ↓bt1 hc2, ↓bt2 hc2]
      rw [oW_some] at hs
      exact hs
    · replace hs := oW_f hs hc2
      obtain ⟨n2, hc3, hs⟩ := oW_bx hs
      obtain ⟨t3, l4, hc4, hs⟩ := oW_ax hs
      obtain ⟨hc5, hs⟩ := oW_gx hs
      obtain ⟨hc6, hs⟩ := oW_gx hs
      obtain ⟨hc7, hs⟩ := oW_gx hs
      simp (implicitDefEqProofs := false) only [↓hG, ↓hJf, ↓px_vc, ↓px_ex, ↓px_jp, ↓rq_gi_0, ↓rq_gi_S, ↓rq_gl_0, ↓rq_gl_S, ↓rq_gr_0, ↓rq_gr_S, ↓rq_s1_0, ↓rq_s1_1, ↓rq_s1_S, ↓rq_s2_0, ↓rq_s2_1, ↓rq_s2_S, ↓rq_nl_n, ↓rq_nl_i, ↓rq_nl_l, ↓rq_nl_r, ↓rq_i1_s, ↓rq_l1_s, ↓r1_s, ↓rq_q1_s, ↓rq_i2_s, ↓rq_l2_s, ↓rq_il_s, ↓rq_d0_s, ↓rq_d1_i, ↓rq_d1_r, ↓rq_d2_l, ↓rq_d2_ii, ↓rq_d2_ir, ↓px_pop, ↓px_sp, ↓px_rd, ↓px_rf, ↓pn_xf, ↓rq_pt_0, ↓rq_pt_1, ↓rq_pt_2, ↓rq_pt_3, ↓px_sw, ↓pn_SW, ↓px_ma, ↓reduceIte, Nat.reduceEqDiff, Nat.reduceAdd, Nat.reduceSub, ↓Option.toList_some, ↓Option.toList_none, ↓List.cons_append, ↓List.nil_append, ↓kI_s, ↓kJ_s, ↓kN_s, ↓kO_s, ↓kZ_s, ↓kE_s, ↓an_rfl, ↓bt1 n00, ↓bt2 n00, ↓bf1 n10, ↓bf2 n10, ↓an_sz0, ↓an_sz1, ↓an_sz2, ↓an_sz3, ↓an_sz4, ↓an_ri, ↓an_rb0, ↓an_rb1, ↓an_b0, ↓an_b1, true_and, ↓ai_0s, ↓al_0s, ↓av_0s, ↓aq_0s, ↓ai_1s, ↓al_1s, ↓av_1s, ↓aq_1s, ↓ai_2s, ↓al_2s, ↓av_2s, ↓aq_2s, ↓ai_3s, ↓al_3s, ↓av_3s, ↓aq_3s, ↓ai_4s, ↓al_4s, ↓av_4s, ↓aq_4s, ↓ai_5s, ↓al_5s, ↓av_5s, ↓aq_5s, ↓ai_6s, ↓al_6s, ↓av_6s, ↓aq_6s, ↓ai_7s, ↓al_7s, ↓av_7s, ↓aq_7s, ↓an_l3, ↓bk_11010, ↓Sg_11003, ↓kp_11010_23, ↓an_t hc0, ↓an_rv hc0, ↓oW_e hc1, ↓bf1 hc2, ↓bf2 hc2, ↓r1_e hc3, ↓av_0e hc3, ↓av_1e hc3, ↓av_2e hc3, ↓av_3e hc3, ↓ar_e hc4, ↓an_t hc5, ↓an_t hc6, ↓an_t hc7]
      exact hs
def Sg_11025 (g : px_M → Nat → Int32 → Int32 → Option (Int32)) : px_S := fun av σ k => av_0 av (fun x0 av => ai_1 av (fun x1 av => ai_2 av (fun x2 av => av = [] ∧ oW (g σ x0 x1 x2) (fun r => k (some (.inl r)) σ))))
/-- NoThree$Town.commonAbove(II)I -/
noncomputable def f_11025 (tab : px_T) (σ : px_M) (x0 : Nat) (x1 : Int32) (x2 : Int32) : Option (Int32) := gd (px_obj (px_lay tab x0) 11) ((((σ).2.2 x0 1)).bind fun n1 => oA (px_lay tab n1) fun t2 l3 => gd (t2 = 0 ∨ t2 = 11) (gd (vp_in x1 l3) (gd (vp_in x2 l3) (some ((((px_av t2 σ n1 (x1).toNatClampNeg) &&& (px_av t2 σ n1 (x2).toNatClampNeg)) &&& ((-2) <<< (x2 &&& 31))))))))
set_option maxHeartbeats 4000000 in
set_option maxRecDepth 100000 in
theorem mf_11025 {tab : px_T} (hn : px_nd tab) {h : Nat} (hh : 1 ≤ h) : px_Ok tab pn_i11025 h (Sg_11025 (f_11025 tab)) := by
  refine px_mth hn (by decide +kernel) (fun av σ k hS => ?_) (fun C hT hC av σ k hS => ?_)
  · obtain ⟨x0, av0, e0, h0⟩ := av_0p hS
    obtain ⟨x1, av1, e1, h1⟩ := ai_1p h0
    obtain ⟨x2, av2, e2, h2⟩ := ai_2p h1
    obtain ⟨ez, hs⟩ := h2
    subst ez
    subst e2
    subst e1
    subst e0
    exact Nat.le_of_ble_eq_true rfl
  · obtain ⟨x0, av0, e0, h0⟩ := av_0p hS
    obtain ⟨x1, av1, e1, h1⟩ := ai_1p h0
    obtain ⟨x2, av2, e2, h2⟩ := ai_2p h1
    obtain ⟨ez, hs⟩ := h2
    subst ez
    subst e2
    subst e1
    subst e0
    subst hT
    show px_W C k 0 [some (.inr (.inr (some x0))), some (.inl x1), some (.inl x2)] [] σ
    refine px_runH (h - 1) ck_11025 [] [] 80 3 (some .int) rfl rfl hC px_nosp (by omega) px_nocut (fun G Jf hG hJf => ?_)
    unfold f_11025 at hs
    obtain ⟨hc0, hs⟩ := oW_gx hs
    obtain ⟨n1, hc1, hs⟩ := oW_bx hs
    obtain ⟨t2, l3, hc2, hs⟩ := oW_ax hs
    obtain ⟨hc3, hs⟩ := oW_gx hs
    obtain ⟨hc4, hs⟩ := oW_gx hs
    obtain ⟨hc5, hs⟩ := oW_gx hs
    simp (implicitDefEqProofs := false) only [↓hG, ↓hJf, ↓px_vc, ↓px_ex, ↓px_jp, ↓rq_gi_0, ↓rq_gi_S, ↓rq_gl_0, ↓rq_gl_S, ↓rq_gr_0, ↓rq_gr_S, ↓rq_s1_0, ↓rq_s1_1, ↓rq_s1_S, ↓rq_s2_0, ↓rq_s2_1, ↓rq_s2_S, ↓rq_nl_n, ↓rq_nl_i, ↓rq_nl_l, ↓rq_nl_r, ↓rq_i1_s, ↓rq_l1_s, ↓r1_s, ↓rq_q1_s, ↓rq_i2_s, ↓rq_l2_s, ↓rq_il_s, ↓rq_d0_s, ↓rq_d1_i, ↓rq_d1_r, ↓rq_d2_l, ↓rq_d2_ii, ↓rq_d2_ir, ↓px_pop, ↓px_sp, ↓px_rd, ↓px_rf, ↓pn_xf, ↓rq_pt_0, ↓rq_pt_1, ↓rq_pt_2, ↓rq_pt_3, ↓px_sw, ↓pn_SW, ↓px_ma, ↓reduceIte, Nat.reduceEqDiff, Nat.reduceAdd, Nat.reduceSub, ↓Option.toList_some, ↓Option.toList_none, ↓List.cons_append, ↓List.nil_append, ↓kI_s, ↓kJ_s, ↓kN_s, ↓kO_s, ↓kZ_s, ↓kE_s, ↓an_rfl, ↓bt1 n00, ↓bt2 n00, ↓bf1 n10, ↓bf2 n10, ↓an_sz0, ↓an_sz1, ↓an_sz2, ↓an_sz3, ↓an_sz4, ↓an_ri, ↓an_rb0, ↓an_rb1, ↓an_b0, ↓an_b1, true_and, ↓ai_0s, ↓al_0s, ↓av_0s, ↓aq_0s, ↓ai_1s, ↓al_1s, ↓av_1s, ↓aq_1s, ↓ai_2s, ↓al_2s, ↓av_2s, ↓aq_2s, ↓ai_3s, ↓al_3s, ↓av_3s, ↓aq_3s, ↓ai_4s, ↓al_4s, ↓av_4s, ↓aq_4s, ↓ai_5s, ↓al_5s, ↓av_5s, ↓aq_5s, ↓ai_6s, ↓al_6s, ↓av_6s, ↓aq_6s, ↓ai_7s, ↓al_7s, ↓av_7s, ↓aq_7s, ↓an_l3, ↓bk_11025, ↓an_t hc0, ↓an_rv hc0, ↓r1_e hc1, ↓av_0e hc1, ↓av_1e hc1, ↓av_2e hc1, ↓av_3e hc1, ↓ar_e hc2, ↓an_t hc3, ↓an_t hc4, ↓an_t hc5]
    rw [oW_some] at hs
    exact hs
def Sg_11024 (g : px_M → Nat → Int32 → Option (Int32)) : px_S := fun av σ k => av_0 av (fun x0 av => ai_1 av (fun x1 av => av = [] ∧ oW (g σ x0 x1) (fun r => k (some (.inl r)) σ)))
/-- NoThree$Town.threeAt(I)I -/
noncomputable def F_11024_55 (tab : px_T) (σ : px_M) (x0 : Nat) (x3 : Int32) (x4 : Int32) (x5 : Int32) (x2 : Int32) (x6 : Int32) : Option ((Int32 × Int32) ⊕ ((Int32 × Int32) ⊕ ((Int32 × Int32) ⊕ (Int32)))) := gd (px_obj (px_lay tab x0) 11) (if ((σ).1 x0 0) ≤ x6 then (some (.inr (.inl ((x2, (x4 + (nI 1))))))) else (bn ((x5 &&& ((nI 1) <<< (x6 &&& 31))) = nI 0) (bn (x2 = nI 0) (some (.inl (((x2 + (-1)), (x6 + (nI 1)))))) (some (.inr (.inr (.inr (((((nI 10000) * x3) + ((nI 100) * x4)) + x6))))))) (some (.inl ((x2, (x6 + (nI 1))))))))
noncomputable def f_11024_55 (tab : px_T) (σ : px_M) (x0 : Nat) (x3 : Int32) (x4 : Int32) (x5 : Int32) (x2 : Int32) (x6 : Int32) : Option ((Int32 × Int32) ⊕ ((Int32 × Int32) ⊕ (Int32))) := lpO (fun s : Int32 × Int32 => F_11024_55 tab σ x0 x3 x4 x5 s.1 s.2) (x2, x6)
theorem f_11024_55_eq (tab : px_T) (σ : px_M) (x0 : Nat) (x3 : Int32) (x4 : Int32) (x5 : Int32) (x2 : Int32) (x6 : Int32) : f_11024_55 tab σ x0 x3 x4 x5 x2 x6 = (F_11024_55 tab σ x0 x3 x4 x5 x2 x6).bind (Sum.elim (fun s => f_11024_55 tab σ x0 x3 x4 x5 s.1 s.2) some) := lpO_eq _ _
noncomputable def f_11024_49 (tab : px_T) (σ : px_M) (x0 : Nat) (x2 : Int32) (x3 : Int32) (x4 : Int32) (x5 : Int32) : Option ((Int32 × Int32) ⊕ ((Int32 × Int32) ⊕ (Int32))) := f_11024_55 tab σ x0 x3 x4 x5 x2 ((x4 + (nI 1)))
noncomputable def F_11024_17 (tab : px_T) (σ : px_M) (x0 : Nat) (x3 : Int32) (x2 : Int32) (x4 : Int32) : Option ((Int32 × Int32) ⊕ ((Int32 × Int32) ⊕ (Int32))) := gd (px_obj (px_lay tab x0) 11) (if ((σ).1 x0 0) ≤ x4 then (some (.inr (.inl ((x2, (x3 + (nI 1))))))) else ((f_11006 tab σ x0 x3 x4).bind fun r1 => if r1 = nI 0 then (f_11024_49 tab σ x0 x2 x3 x4 ((nI 0))) else ((f_11025 tab σ x0 x3 x4).bind fun r2 => f_11024_49 tab σ x0 x2 x3 x4 r2)))
noncomputable def f_11024_17 (tab : px_T) (σ : px_M) (x0 : Nat) (x3 : Int32) (x2 : Int32) (x4 : Int32) : Option ((Int32 × Int32) ⊕ (Int32)) := lpO (fun s : Int32 × Int32 => F_11024_17 tab σ x0 x3 s.1 s.2) (x2, x4)
theorem f_11024_17_eq (tab : px_T) (σ : px_M) (x0 : Nat) (x3 : Int32) (x2 : Int32) (x4 : Int32) : f_11024_17 tab σ x0 x3 x2 x4 = (F_11024_17 tab σ x0 x3 x2 x4).bind (Sum.elim (fun s => f_11024_17 tab σ x0 x3 s.1 s.2) some) := lpO_eq _ _
noncomputable def F_11024_4 (tab : px_T) (σ : px_M) (x0 : Nat) (x2 : Int32) (x3 : Int32) : Option ((Int32 × Int32) ⊕ (Int32)) := gd (px_obj (px_lay tab x0) 11) (if ((σ).1 x0 0) ≤ x3 then (some (.inr ((-1)))) else (f_11024_17 tab σ x0 x3 x2 ((x3 + (nI 1)))))
noncomputable def f_11024_4 (tab : px_T) (σ : px_M) (x0 : Nat) (x2 : Int32) (x3 : Int32) : Option (Int32) := lpO (fun s : Int32 × Int32 => F_11024_4 tab σ x0 s.1 s.2) (x2, x3)
theorem f_11024_4_eq (tab : px_T) (σ : px_M) (x0 : Nat) (x2 : Int32) (x3 : Int32) : f_11024_4 tab σ x0 x2 x3 = (F_11024_4 tab σ x0 x2 x3).bind (Sum.elim (fun s => f_11024_4 tab σ x0 s.1 s.2) some) := lpO_eq _ _
noncomputable def f_11024 (tab : px_T) (σ : px_M) (x0 : Nat) (x1 : Int32) : Option (Int32) := f_11024_4 tab σ x0 x1 ((nI 0))
def kp_11024_55 (Q : Nat → Int32 → Int32 → Int32 → Int32 → Int32 → px_M → Prop) : px_P := fun ls st τ => st = [] ∧ kN ls (fun x0 ls => kZ ls (fun ls => kI ls (fun x2 ls => kI ls (fun x3 ls => kI ls (fun x4 ls => kI ls (fun x5 ls => kI ls (fun x6 ls => kE ls (Q x0 x2 x3 x4 x5 x6 τ))))))))
theorem kq_11024_55 {C : px_C} {k : Option px_V → px_M → Prop} {Q : Nat → Int32 → Int32 → Int32 → Int32 → Int32 → px_M → Prop} (H : ∀ (x0 : Nat) (x2 : Int32) (x3 : Int32) (x4 : Int32) (x5 : Int32) (x6 : Int32) (τ : px_M), Q x0 x2 x3 x4 x5 x6 τ → ∀ (z1 : Option px_V), px_W C k 55 [some (.inr (.inr (some x0))), z1, some (.inl x2), some (.inl x3), some (.inl x4), some (.inl x5), some (.inl x6)] [] τ) : ∀ ls st τ, kp_11024_55 Q ls st τ → px_W C k 55 ls st τ := by
  intro ls st τ hz
  obtain ⟨ez, h0⟩ := hz
  obtain ⟨x0, l0, e0, h1⟩ := kN_sp h0
  obtain ⟨z1, l1, e1, h2⟩ := kZ_sp h1
  obtain ⟨x2, l2, e2, h3⟩ := kI_sp h2
  obtain ⟨x3, l3, e3, h4⟩ := kI_sp h3
  obtain ⟨x4, l4, e4, h5⟩ := kI_sp h4
  obtain ⟨x5, l5, e5, h6⟩ := kI_sp h5
  obtain ⟨x6, l6, e6, h7⟩ := kI_sp h6
  obtain ⟨ey, hy⟩ := kE_sp h7
  subst ez
  subst ey
  subst e6
  subst e5
  subst e4
  subst e3
  subst e2
  subst e1
  subst e0
  exact H x0 x2 x3 x4 x5 x6 τ hy z1
def kp_11024_49 (Q : Nat → Int32 → Int32 → Int32 → Int32 → px_M → Prop) : px_P := fun ls st τ => st = [] ∧ kN ls (fun x0 ls => kZ ls (fun ls => kI ls (fun x2 ls => kI ls (fun x3 ls => kI ls (fun x4 ls => kI ls (fun x5 ls => kZ ls (fun ls => kE ls (Q x0 x2 x3 x4 x5 τ))))))))
theorem kq_11024_49 {C : px_C} {k : Option px_V → px_M → Prop} {Q : Nat → Int32 → Int32 → Int32 → Int32 → px_M → Prop} (H : ∀ (x0 : Nat) (x2 : Int32) (x3 : Int32) (x4 : Int32) (x5 : Int32) (τ : px_M), Q x0 x2 x3 x4 x5 τ → ∀ (z1 : Option px_V) (z6 : Option px_V), px_W C k 49 [some (.inr (.inr (some x0))), z1, some (.inl x2), some (.inl x3), some (.inl x4), some (.inl x5), z6] [] τ) : ∀ ls st τ, kp_11024_49 Q ls st τ → px_W C k 49 ls st τ := by
  intro ls st τ hz
  obtain ⟨ez, h0⟩ := hz
  obtain ⟨x0, l0, e0, h1⟩ := kN_sp h0
  obtain ⟨z1, l1, e1, h2⟩ := kZ_sp h1
  obtain ⟨x2, l2, e2, h3⟩ := kI_sp h2
  obtain ⟨x3, l3, e3, h4⟩ := kI_sp h3
  obtain ⟨x4, l4, e4, h5⟩ := kI_sp h4
  obtain ⟨x5, l5, e5, h6⟩ := kI_sp h5
  obtain ⟨z6, l6, e6, h7⟩ := kZ_sp h6
  obtain ⟨ey, hy⟩ := kE_sp h7
  subst ez
  subst ey
  subst e6
  subst e5
  subst e4
  subst e3
  subst e2
  subst e1
  subst e0
  exact H x0 x2 x3 x4 x5 τ hy z1 z6
def kp_11024_17 (Q : Nat → Int32 → Int32 → Int32 → px_M → Prop) : px_P := fun ls st τ => st = [] ∧ kN ls (fun x0 ls => kZ ls (fun ls => kI ls (fun x2 ls => kI ls (fun x3 ls => kI ls (fun x4 ls => kZ ls (fun ls => kZ ls (fun ls => kE ls (Q x0 x2 x3 x4 τ))))))))
theorem kq_11024_17 {C : px_C} {k : Option px_V → px_M → Prop} {Q : Nat → Int32 → Int32 → Int32 → px_M → Prop} (H : ∀ (x0 : Nat) (x2 : Int32) (x3 : Int32) (x4 : Int32) (τ : px_M), Q x0 x2 x3 x4 τ → ∀ (z1 : Option px_V) (z5 : Option px_V) (z6 : Option px_V), px_W C k 17 [some (.inr (.inr (some x0))), z1, some (.inl x2), some (.inl x3), some (.inl x4), z5, z6] [] τ) : ∀ ls st τ, kp_11024_17 Q ls st τ → px_W C k 17 ls st τ := by
  intro ls st τ hz
  obtain ⟨ez, h0⟩ := hz
  obtain ⟨x0, l0, e0, h1⟩ := kN_sp h0
  obtain ⟨z1, l1, e1, h2⟩ := kZ_sp h1
  obtain ⟨x2, l2, e2, h3⟩ := kI_sp h2
  obtain ⟨x3, l3, e3, h4⟩ := kI_sp h3
  obtain ⟨x4, l4, e4, h5⟩ := kI_sp h4
  obtain ⟨z5, l5, e5, h6⟩ := kZ_sp h5
  obtain ⟨z6, l6, e6, h7⟩ := kZ_sp h6
  obtain ⟨ey, hy⟩ := kE_sp h7
  subst ez
  subst ey
  subst e6
  subst e5
  subst e4
  subst e3
  subst e2
  subst e1
  subst e0
  exact H x0 x2 x3 x4 τ hy z1 z5 z6
def kp_11024_4 (Q : Nat → Int32 → Int32 → px_M → Prop) : px_P := fun ls st τ => st = [] ∧ kN ls (fun x0 ls => kZ ls (fun ls => kI ls (fun x2 ls => kI ls (fun x3 ls => kZ ls (fun ls => kZ ls (fun ls => kZ ls (fun ls => kE ls (Q x0 x2 x3 τ))))))))
theorem kq_11024_4 {C : px_C} {k : Option px_V → px_M → Prop} {Q : Nat → Int32 → Int32 → px_M → Prop} (H : ∀ (x0 : Nat) (x2 : Int32) (x3 : Int32) (τ : px_M), Q x0 x2 x3 τ → ∀ (z1 : Option px_V) (z4 : Option px_V) (z5 : Option px_V) (z6 : Option px_V), px_W C k 4 [some (.inr (.inr (some x0))), z1, some (.inl x2), some (.inl x3), z4, z5, z6] [] τ) : ∀ ls st τ, kp_11024_4 Q ls st τ → px_W C k 4 ls st τ := by
  intro ls st τ hz
  obtain ⟨ez, h0⟩ := hz
  obtain ⟨x0, l0, e0, h1⟩ := kN_sp h0
  obtain ⟨z1, l1, e1, h2⟩ := kZ_sp h1
  obtain ⟨x2, l2, e2, h3⟩ := kI_sp h2
  obtain ⟨x3, l3, e3, h4⟩ := kI_sp h3
  obtain ⟨z4, l4, e4, h5⟩ := kZ_sp h4
  obtain ⟨z5, l5, e5, h6⟩ := kZ_sp h5
  obtain ⟨z6, l6, e6, h7⟩ := kZ_sp h6
  obtain ⟨ey, hy⟩ := kE_sp h7
  subst ez
  subst ey
  subst e6
  subst e5
  subst e4
  subst e3
  subst e2
  subst e1
  subst e0
  exact H x0 x2 x3 τ hy z1 z4 z5 z6
set_option maxHeartbeats 4000000 in
set_option maxRecDepth 100000 in
theorem rl_11024_55 {C : px_C} (hn : px_nd (px_tb C)) {h : Nat} (hh : 3 ≤ h) (hC : px_ok C pn_i11024 h) {k : Option px_V → px_M → Prop} {x0 : Nat} {x3 : Int32} {x4 : Int32} {x5 : Int32} {σ : px_M} : ∀ s : Int32 × Int32, oW (f_11024_55 (px_tb C) σ x0 x3 x4 x5 s.1 s.2) (Sum.elim (fun s : Int32 × Int32 => ∀ (z1 : Option px_V) (z5 : Option px_V) (z6 : Option px_V), px_W C k 17 [some (.inr (.inr (some x0))), z1, some (.inl s.1), some (.inl x3), some (.inl s.2), z5, z6] [] σ) (Sum.elim (fun s : Int32 × Int32 => ∀ (z1 : Option px_V) (z4 : Option px_V) (z5 : Option px_V) (z6 : Option px_V), px_W C k 4 [some (.inr (.inr (some x0))), z1, some (.inl s.1), some (.inl s.2), z4, z5, z6] [] σ) (fun r => k (some (.inl r)) σ))) → (fun s : Int32 × Int32 => ∀ (z1 : Option px_V), px_W C k 55 [some (.inr (.inr (some x0))), z1, some (.inl s.1), some (.inl x3), some (.inl x4), some (.inl x5), some (.inl s.2)] [] σ) s := by
  intro s h0
  refine lpO_sound (P := (fun s : Int32 × Int32 => ∀ (z1 : Option px_V), px_W C k 55 [some (.inr (.inr (some x0))), z1, some (.inl s.1), some (.inl x3), some (.inl x4), some (.inl x5), some (.inl s.2)] [] σ)) (fun s hs => ?_) h0
  obtain ⟨x2, x6⟩ := s
  intro z1
  refine px_runH (h - 1) ck_11024 [] [(17, kp_11024_17 (fun y0 y2 y3 y4 τ => y0 = x0 ∧ y3 = x3 ∧ τ = σ ∧ (fun s : Int32 × Int32 => ∀ (z1 : Option px_V) (z5 : Option px_V) (z6 : Option px_V), px_W C k 17 [some (.inr (.inr (some x0))), z1, some (.inl s.1), some (.inl x3), some (.inl s.2), z5, z6] [] σ) (y2, y4))), (55, kp_11024_55 (fun y0 y2 y3 y4 y5 y6 τ => y0 = x0 ∧ y3 = x3 ∧ y4 = x4 ∧ y5 = x5 ∧ τ = σ ∧ (fun s : Int32 × Int32 => ∀ (z1 : Option px_V), px_W C k 55 [some (.inr (.inr (some x0))), z1, some (.inl s.1), some (.inl x3), some (.inl x4), some (.inl x5), some (.inl s.2)] [] σ) (y2, y6)))] 80 7 (some .int) rfl rfl hC px_nosp (by omega) (px_cut1 (kq_11024_17 (fun y0 y2 y3 y4 τ hq => by obtain ⟨rfl, rfl, rfl, hq⟩ := hq; exact hq)) (px_cut1 (kq_11024_55 (fun y0 y2 y3 y4 y5 y6 τ hq => by obtain ⟨rfl, rfl, rfl, rfl, rfl, hq⟩ := hq; exact hq)) px_nocut)) (fun G Jf hG hJf => ?_)
  replace hs : oW (F_11024_55 (px_tb C) σ x0 x3 x4 x5 x2 x6) _ := hs
  unfold F_11024_55 at hs
  obtain ⟨hc0, hs⟩ := oW_gx hs
  by_cases hc1 : ((σ).1 x0 0) ≤ x6
  · replace hs := oW_t hs hc1
    simp (implicitDefEqProofs := false) only [↓hG, ↓hJf, ↓px_vc, ↓px_ex, ↓px_jp, ↓rq_gi_0, ↓rq_gi_S, ↓rq_gl_0, ↓rq_gl_S, ↓rq_gr_0, ↓rq_gr_S, ↓rq_s1_0, ↓rq_s1_1, ↓rq_s1_S, ↓rq_s2_0, ↓rq_s2_1, ↓rq_s2_S, ↓rq_nl_n, ↓rq_nl_i, ↓rq_nl_l, ↓rq_nl_r, ↓rq_i1_s, ↓rq_l1_s, ↓r1_s, ↓rq_q1_s, ↓rq_i2_s, ↓rq_l2_s, ↓rq_il_s, ↓rq_d0_s, ↓rq_d1_i, ↓rq_d1_r, ↓rq_d2_l, ↓rq_d2_ii, ↓rq_d2_ir, ↓px_pop, ↓px_sp, ↓px_rd, ↓px_rf, ↓pn_xf, ↓rq_pt_0, ↓rq_pt_1, ↓rq_pt_2, ↓rq_pt_3, ↓px_sw, ↓pn_SW, ↓px_ma, ↓reduceIte, Nat.reduceEqDiff, Nat.reduceAdd, Nat.reduceSub, ↓Option.toList_some, ↓Option.toList_none, ↓List.cons_append, ↓List.nil_append, ↓kI_s, ↓kJ_s, ↓kN_s, ↓kO_s, ↓kZ_s, ↓kE_s, ↓an_rfl, ↓bt1 n00, ↓bt2 n00, ↓bf1 n10, ↓bf2 n10, ↓an_sz0, ↓an_sz1, ↓an_sz2, ↓an_sz3, ↓an_sz4, ↓an_ri, ↓an_rb0, ↓an_rb1, ↓an_b0, ↓an_b1, true_and, ↓ai_0s, ↓al_0s, ↓av_0s, ↓aq_0s, ↓ai_1s, ↓al_1s, ↓av_1s, ↓aq_1s, ↓ai_2s, ↓al_2s, ↓av_2s, ↓aq_2s, ↓ai_3s, ↓al_3s, ↓av_3s, ↓aq_3s, ↓ai_4s, ↓al_4s, ↓av_4s, ↓aq_4s, ↓ai_5s, ↓al_5s, ↓av_5s, ↓aq_5s, ↓ai_6s, ↓al_6s, ↓av_6s, ↓aq_6s, ↓ai_7s, ↓al_7s, ↓av_7s, ↓aq_7s, ↓an_l7, ↓bk_11024, ↓kp_11024_17, ↓kp_11024_55, ↓an_t hc0, ↓an_rv hc0, ↓bt1 hc1, ↓bt2 hc1]
    rw [oW_some] at hs
    exact hs
  · replace hs := oW_f hs hc1
    by_cases hc2 : (x5 &&& ((nI 1) <<< (x6 &&& 31))) = nI 0
    · replace hs := bW_t hs hc2
      simp (implicitDefEqProofs := false) only [↓hG, ↓hJf, ↓px_vc, ↓px_ex, ↓px_jp, ↓rq_gi_0, ↓rq_gi_S, ↓rq_gl_0, ↓rq_gl_S, ↓rq_gr_0, ↓rq_gr_S, ↓rq_s1_0, ↓rq_s1_1, ↓rq_s1_S, ↓rq_s2_0, ↓rq_s2_1, ↓rq_s2_S, ↓rq_nl_n, ↓rq_nl_i, ↓rq_nl_l, ↓rq_nl_r, ↓rq_i1_s, ↓rq_l1_s, ↓r1_s, ↓rq_q1_s, ↓rq_i2_s, ↓rq_l2_s, ↓rq_il_s, ↓rq_d0_s, ↓rq_d1_i, ↓rq_d1_r, ↓rq_d2_l, ↓rq_d2_ii, ↓rq_d2_ir, ↓px_pop, ↓px_sp, ↓px_rd, ↓px_rf, ↓pn_xf, ↓rq_pt_0, ↓rq_pt_1, ↓rq_pt_2, ↓rq_pt_3, ↓px_sw, ↓pn_SW, ↓px_ma, ↓reduceIte, Nat.reduceEqDiff, Nat.reduceAdd, Nat.reduceSub, ↓Option.toList_some, ↓Option.toList_none, ↓List.cons_append, ↓List.nil_append, ↓kI_s, ↓kJ_s, ↓kN_s, ↓kO_s, ↓kZ_s, ↓kE_s, ↓an_rfl, ↓bt1 n00, ↓bt2 n00, ↓bf1 n10, ↓bf2 n10, ↓an_sz0, ↓an_sz1, ↓an_sz2, ↓an_sz3, ↓an_sz4, ↓an_ri, ↓an_rb0, ↓an_rb1, ↓an_b0, ↓an_b1, true_and, ↓ai_0s, ↓al_0s, ↓av_0s, ↓aq_0s, ↓ai_1s, ↓al_1s, ↓av_1s, ↓aq_1s, ↓ai_2s, ↓al_2s, ↓av_2s, ↓aq_2s, ↓ai_3s, ↓al_3s, ↓av_3s, ↓aq_3s, ↓ai_4s, ↓al_4s, ↓av_4s, ↓aq_4s, ↓ai_5s, ↓al_5s, ↓av_5s, ↓aq_5s, ↓ai_6s, ↓al_6s, ↓av_6s, ↓aq_6s, ↓ai_7s, ↓al_7s, ↓av_7s, ↓aq_7s, ↓an_l7, ↓bk_11024, ↓kp_11024_17, ↓kp_11024_55, ↓an_t hc0, ↓an_rv hc0, ↓bf1 hc1, ↓bf2 hc1, ↓bt1 hc2, ↓bt2 hc2]
      rw [oW_some] at hs
      exact hs
    · replace hs := bW_f hs hc2
      by_cases hc3 : x2 = nI 0
      · replace hs := bW_t hs hc3
        simp (implicitDefEqProofs := false) only [↓hG, ↓hJf, ↓px_vc, ↓px_ex, ↓px_jp, ↓rq_gi_0, ↓rq_gi_S, ↓rq_gl_0, ↓rq_gl_S, ↓rq_gr_0, ↓rq_gr_S, ↓rq_s1_0, ↓rq_s1_1, ↓rq_s1_S, ↓rq_s2_0, ↓rq_s2_1, ↓rq_s2_S, ↓rq_nl_n, ↓rq_nl_i, ↓rq_nl_l, ↓rq_nl_r, ↓rq_i1_s, ↓rq_l1_s, ↓r1_s, ↓rq_q1_s, ↓rq_i2_s, ↓rq_l2_s, ↓rq_il_s, ↓rq_d0_s, ↓rq_d1_i, ↓rq_d1_r, ↓rq_d2_l, ↓rq_d2_ii, ↓rq_d2_ir, ↓px_pop, ↓px_sp, ↓px_rd, ↓px_rf, ↓pn_xf, ↓rq_pt_0, ↓rq_pt_1, ↓rq_pt_2, ↓rq_pt_3, ↓px_sw, ↓pn_SW, ↓px_ma, ↓reduceIte, Nat.reduceEqDiff, Nat.reduceAdd, Nat.reduceSub, ↓Option.toList_some, ↓Option.toList_none, ↓List.cons_append, ↓List.nil_append, ↓kI_s, ↓kJ_s, ↓kN_s, ↓kO_s, ↓kZ_s, ↓kE_s, ↓an_rfl, ↓bt1 n00, ↓bt2 n00, ↓bf1 n10, ↓bf2 n10, ↓an_sz0, ↓an_sz1, ↓an_sz2, ↓an_sz3, ↓an_sz4, ↓an_ri, ↓an_rb0, ↓an_rb1, ↓an_b0, ↓an_b1, true_and, ↓ai_0s, ↓al_0s, ↓av_0s, ↓aq_0s, ↓ai_1s, ↓al_1s, ↓av_1s, ↓aq_1s, ↓ai_2s, ↓al_2s, ↓av_2s, ↓aq_2s, ↓ai_3s, ↓al_3s, ↓av_3s, ↓aq_3s, ↓ai_4s, ↓al_4s, ↓av_4s, ↓aq_4s, ↓ai_5s, ↓al_5s, ↓av_5s, ↓aq_5s, ↓ai_6s, ↓al_6s, ↓av_6s, ↓aq_6s, ↓ai_7s, ↓al_7s, ↓av_7s, ↓aq_7s, ↓an_l7, ↓bk_11024, ↓kp_11024_17, ↓kp_11024_55, ↓an_t hc0, ↓an_rv hc0, ↓bf1 hc1, ↓bf2 hc1, ↓bf1 hc2, ↓bf2 hc2, ↓bt1 hc3, ↓bt2 hc3]
        rw [oW_some] at hs
        exact hs
      · replace hs := bW_f hs hc3
        simp (implicitDefEqProofs := false) only [↓hG, ↓hJf, ↓px_vc, ↓px_ex, ↓px_jp, ↓rq_gi_0, ↓rq_gi_S, ↓rq_gl_0, ↓rq_gl_S, ↓rq_gr_0, ↓rq_gr_S, ↓rq_s1_0, ↓rq_s1_1, ↓rq_s1_S, ↓rq_s2_0, ↓rq_s2_1, ↓rq_s2_S, ↓rq_nl_n, ↓rq_nl_i, ↓rq_nl_l, ↓rq_nl_r, ↓rq_i1_s, ↓rq_l1_s, ↓r1_s, ↓rq_q1_s, ↓rq_i2_s, ↓rq_l2_s, ↓rq_il_s, ↓rq_d0_s, ↓rq_d1_i, ↓rq_d1_r, ↓rq_d2_l, ↓rq_d2_ii, ↓rq_d2_ir, ↓px_pop, ↓px_sp, ↓px_rd, ↓px_rf, ↓pn_xf, ↓rq_pt_0, ↓rq_pt_1, ↓rq_pt_2, ↓rq_pt_3, ↓px_sw, ↓pn_SW, ↓px_ma, ↓reduceIte, Nat.reduceEqDiff, Nat.reduceAdd, Nat.reduceSub, ↓Option.toList_some, ↓Option.toList_none, ↓List.cons_append, ↓List.nil_append, ↓kI_s, ↓kJ_s, ↓kN_s, ↓kO_s, ↓kZ_s, ↓kE_s, ↓an_rfl, ↓bt1 n00, ↓bt2 n00, ↓bf1 n10, ↓bf2 n10, ↓an_sz0, ↓an_sz1, ↓an_sz2, ↓an_sz3, ↓an_sz4, ↓an_ri, ↓an_rb0, ↓an_rb1, ↓an_b0, ↓an_b1, true_and, ↓ai_0s, ↓al_0s, ↓av_0s, ↓aq_0s, ↓ai_1s, ↓al_1s, ↓av_1s, ↓aq_1s, ↓ai_2s, ↓al_2s, ↓av_2s, ↓aq_2s, ↓ai_3s, ↓al_3s, ↓av_3s, ↓aq_3s, ↓ai_4s, ↓al_4s, ↓av_4s, ↓aq_4s, ↓ai_5s, ↓al_5s, ↓av_5s, ↓aq_5s, ↓ai_6s, ↓al_6s, ↓av_6s, ↓aq_6s, ↓ai_7s, ↓al_7s, ↓av_7s, ↓aq_7s, ↓an_l7, ↓bk_11024, ↓kp_11024_17, ↓kp_11024_55, ↓an_t hc0, ↓an_rv hc0, ↓bf1 hc1, ↓bf2 hc1, ↓bf1 hc2, ↓bf2 hc2, ↓bf1 hc3, ↓bf2 hc3]
        rw [oW_some] at hs
        exact hs
set_option maxHeartbeats 4000000 in
set_option maxRecDepth 100000 in
theorem rl_11024_49 {C : px_C} (hn : px_nd (px_tb C)) {h : Nat} (hh : 3 ≤ h) (hC : px_ok C pn_i11024 h) {k : Option px_V → px_M → Prop} {x0 : Nat} {x2 : Int32} {x3 : Int32} {x4 : Int32} {x5 : Int32} {σ : px_M} (hs : oW (f_11024_49 (px_tb C) σ x0 x2 x3 x4 x5) (Sum.elim (fun s : Int32 × Int32 => ∀ (z1 : Option px_V) (z5 : Option px_V) (z6 : Option px_V), px_W C k 17 [some (.inr (.inr (some x0))), z1, some (.inl s.1), some (.inl x3), some (.inl s.2), z5, z6] [] σ) (Sum.elim (fun s : Int32 × Int32 => ∀ (z1 : Option px_V) (z4 : Option px_V) (z5 : Option px_V) (z6 : Option px_V), px_W C k 4 [some (.inr (.inr (some x0))), z1, some (.inl s.1), some (.inl s.2), z4, z5, z6] [] σ) (fun r => k (some (.inl r)) σ)))) : ∀ (z1 : Option px_V) (z6 : Option px_V), px_W C k 49 [some (.inr (.inr (some x0))), z1, some (.inl x2), some (.inl x3), some (.inl x4), some (.inl x5), z6] [] σ := by
  intro z1 z6
  refine px_runH (h - 1) ck_11024 [] [(55, kp_11024_55 (fun y0 y2 y3 y4 y5 y6 τ => y0 = x0 ∧ y3 = x3 ∧ τ = σ ∧ oW (f_11024_55 (px_tb C) τ y0 y3 y4 y5 y2 y6) (Sum.elim (fun s : Int32 × Int32 => ∀ (z1 : Option px_V) (z5 : Option px_V) (z6 : Option px_V), px_W C k 17 [some (.inr (.inr (some x0))), z1, some (.inl s.1), some (.inl x3), some (.inl s.2), z5, z6] [] σ) (Sum.elim (fun s : Int32 × Int32 => ∀ (z1 : Option px_V) (z4 : Option px_V) (z5 : Option px_V) (z6 : Option px_V), px_W C k 4 [some (.inr (.inr (some x0))), z1, some (.inl s.1), some (.inl s.2), z4, z5, z6] [] σ) (fun r => k (some (.inl r)) σ)))))] 80 7 (some .int) rfl rfl hC px_nosp (by omega) (px_cut1 (kq_11024_55 (fun y0 y2 y3 y4 y5 y6 τ hq => by obtain ⟨rfl, rfl, rfl, hq⟩ := hq; exact rl_11024_55 hn (by omega) hC (y2, y6) hq)) px_nocut) (fun G Jf hG hJf => ?_)
  unfold f_11024_49 at hs
  simp (implicitDefEqProofs := false) only [↓hG, ↓hJf, ↓px_vc, ↓px_ex, ↓px_jp, ↓rq_gi_0, ↓rq_gi_S, ↓rq_gl_0, ↓rq_gl_S, ↓rq_gr_0, ↓rq_gr_S, ↓rq_s1_0, ↓rq_s1_1, ↓rq_s1_S, ↓rq_s2_0, ↓rq_s2_1, ↓rq_s2_S, ↓rq_nl_n, ↓rq_nl_i, ↓rq_nl_l, ↓rq_nl_r, ↓rq_i1_s, ↓rq_l1_s, ↓r1_s, ↓rq_q1_s, ↓rq_i2_s, ↓rq_l2_s, ↓rq_il_s, ↓rq_d0_s, ↓rq_d1_i, ↓rq_d1_r, ↓rq_d2_l, ↓rq_d2_ii, ↓rq_d2_ir, ↓px_pop, ↓px_sp, ↓px_rd, ↓px_rf, ↓pn_xf, ↓rq_pt_0, ↓rq_pt_1, ↓rq_pt_2, ↓rq_pt_3, ↓px_sw, ↓pn_SW, ↓px_ma, ↓reduceIte, Nat.reduceEqDiff, Nat.reduceAdd, Nat.reduceSub, ↓Option.toList_some, ↓Option.toList_none, ↓List.cons_append, ↓List.nil_append, ↓kI_s, ↓kJ_s, ↓kN_s, ↓kO_s, ↓kZ_s, ↓kE_s, ↓an_rfl, ↓bt1 n00, ↓bt2 n00, ↓bf1 n10, ↓bf2 n10, ↓an_sz0, ↓an_sz1, ↓an_sz2, ↓an_sz3, ↓an_sz4, ↓an_ri, ↓an_rb0, ↓an_rb1, ↓an_b0, ↓an_b1, true_and, ↓ai_0s, ↓al_0s, ↓av_0s, ↓aq_0s, ↓ai_1s, ↓al_1s, ↓av_1s, ↓aq_1s, ↓ai_2s, ↓al_2s, ↓av_2s, ↓aq_2s, ↓ai_3s, ↓al_3s, ↓av_3s, ↓aq_3s, ↓ai_4s, ↓al_4s, ↓av_4s, ↓aq_4s, ↓ai_5s, ↓al_5s, ↓av_5s, ↓aq_5s, ↓ai_6s, ↓al_6s, ↓av_6s, ↓aq_6s, ↓ai_7s, ↓al_7s, ↓av_7s, ↓aq_7s, ↓an_l7, ↓bk_11024, ↓kp_11024_55]
  exact hs
set_option maxHeartbeats 4000000 in
set_option maxRecDepth 100000 in
theorem rl_11024_17 {C : px_C} (hn : px_nd (px_tb C)) {h : Nat} (hh : 3 ≤ h) (hC : px_ok C pn_i11024 h) {k : Option px_V → px_M → Prop} {x0 : Nat} {x3 : Int32} {σ : px_M} : ∀ s : Int32 × Int32, oW (f_11024_17 (px_tb C) σ x0 x3 s.1 s.2) (Sum.elim (fun s : Int32 × Int32 => ∀ (z1 : Option px_V) (z4 : Option px_V) (z5 : Option px_V) (z6 : Option px_V), px_W C k 4 [some (.inr (.inr (some x0))), z1, some (.inl s.1), some (.inl s.2), z4, z5, z6] [] σ) (fun r => k (some (.inl r)) σ)) → (fun s : Int32 × Int32 => ∀ (z1 : Option px_V) (z5 : Option px_V) (z6 : Option px_V), px_W C k 17 [some (.inr (.inr (some x0))), z1, some (.inl s.1), some (.inl x3), some (.inl s.2), z5, z6] [] σ) s := by
  intro s h0
  refine lpO_sound (P := (fun s : Int32 × Int32 => ∀ (z1 : Option px_V) (z5 : Option px_V) (z6 : Option px_V), px_W C k 17 [some (.inr (.inr (some x0))), z1, some (.inl s.1), some (.inl x3), some (.inl s.2), z5, z6] [] σ)) (fun s hs => ?_) h0
  obtain ⟨x2, x4⟩ := s
  intro z1 z5 z6
  refine px_runH (h - 1) ck_11024 [(11006, Sg_11006 (f_11006 (px_tb C))), (11025, Sg_11025 (f_11025 (px_tb C)))] [(4, kp_11024_4 (fun y0 y2 y3 τ => y0 = x0 ∧ τ = σ ∧ (fun s : Int32 × Int32 => ∀ (z1 : Option px_V) (z4 : Option px_V) (z5 : Option px_V) (z6 : Option px_V), px_W C k 4 [some (.inr (.inr (some x0))), z1, some (.inl s.1), some (.inl s.2), z4, z5, z6] [] σ) (y2, y3))), (49, kp_11024_49 (fun y0 y2 y3 y4 y5 τ => y0 = x0 ∧ y3 = x3 ∧ τ = σ ∧ oW (f_11024_49 (px_tb C) τ y0 y2 y3 y4 y5) (Sum.elim (fun s : Int32 × Int32 => ∀ (z1 : Option px_V) (z5 : Option px_V) (z6 : Option px_V), px_W C k 17 [some (.inr (.inr (some x0))), z1, some (.inl s.1), some (.inl x3), some (.inl s.2), z5, z6] [] σ) (Sum.elim (fun s : Int32 × Int32 => ∀ (z1 : Option px_V) (z4 : Option px_V) (z5 : Option px_V) (z6 : Option px_V), px_W C k 4 [some (.inr (.inr (some x0))), z1, some (.inl s.1), some (.inl s.2), z4, z5, z6] [] σ) (fun r => k (some (.inl r)) σ)))))] 80 7 (some .int) rfl rfl hC (px_sp1 (mf_11006 hn (by omega)) (px_sp1 (mf_11025 hn (by omega)) px_nosp)) (by omega) (px_cut1 (kq_11024_4 (fun y0 y2 y3 τ hq => by obtain ⟨rfl, rfl, hq⟩ := hq; exact hq)) (px_cut1 (kq_11024_49 (fun y0 y2 y3 y4 y5 τ hq => by obtain ⟨rfl, rfl, rfl, hq⟩ := hq; exact rl_11024_49 hn (by omega) hC  hq)) px_nocut)) (fun G Jf hG hJf => ?_)
  replace hs : oW (F_11024_17 (px_tb C) σ x0 x3 x2 x4) _ := hs
  unfold F_11024_17 at hs
  obtain ⟨hc0, hs⟩ := oW_gx hs
  by_cases hc1 : ((σ).1 x0 0) ≤ x4
  · replace hs := oW_t hs hc1
    simp (implicitDefEqProofs := false) only [↓hG, ↓hJf, ↓px_vc, ↓px_ex, ↓px_jp, ↓rq_gi_0, ↓rq_gi_S, ↓rq_gl_0, ↓rq_gl_S, ↓rq_gr_0, ↓rq_gr_S, ↓rq_s1_0, ↓rq_s1_1, ↓rq_s1_S, ↓rq_s2_0, ↓rq_s2_1, ↓rq_s2_S, ↓rq_nl_n, ↓rq_nl_i, ↓rq_nl_l, ↓rq_nl_r, ↓rq_i1_s, ↓rq_l1_s, ↓r1_s, ↓rq_q1_s, ↓rq_i2_s, ↓rq_l2_s, ↓rq_il_s, ↓rq_d0_s, ↓rq_d1_i, ↓rq_d1_r, ↓rq_d2_l, ↓rq_d2_ii, ↓rq_d2_ir, ↓px_pop, ↓px_sp, ↓px_rd, ↓px_rf, ↓pn_xf, ↓rq_pt_0, ↓rq_pt_1, ↓rq_pt_2, ↓rq_pt_3, ↓px_sw, ↓pn_SW, ↓px_ma, ↓reduceIte, Nat.reduceEqDiff, Nat.reduceAdd, Nat.reduceSub, ↓Option.toList_some, ↓Option.toList_none, ↓List.cons_append, ↓List.nil_append, ↓kI_s, ↓kJ_s, ↓kN_s, ↓kO_s, ↓kZ_s, ↓kE_s, ↓an_rfl, ↓bt1 n00, ↓bt2 n00, ↓bf1 n10, ↓bf2 n10, ↓an_sz0, ↓an_sz1, ↓an_sz2, ↓an_sz3, ↓an_sz4, ↓an_ri, ↓an_rb0, ↓an_rb1, ↓an_b0, ↓an_b1, true_and, ↓ai_0s, ↓al_0s, ↓av_0s, ↓aq_0s, ↓ai_1s, ↓al_1s, ↓av_1s, ↓aq_1s, ↓ai_2s, ↓al_2s, ↓av_2s, ↓aq_2s, ↓ai_3s, ↓al_3s, ↓av_3s, ↓aq_3s, ↓ai_4s, ↓al_4s, ↓av_4s, ↓aq_4s, ↓ai_5s, ↓al_5s, ↓av_5s, ↓aq_5s, ↓ai_6s, ↓al_6s, ↓av_6s, ↓aq_6s, ↓ai_7s, ↓al_7s, ↓av_7s, ↓aq_7s, ↓an_l7, ↓bk_11024, ↓Sg_11006, ↓Sg_11025, ↓kp_11024_4, ↓kp_11024_49, ↓an_t hc0, ↓an_rv hc0, ↓bt1 hc1, ↓bt2 hc1]
    rw [oW_some] at hs
    exact hs
  · replace hs := oW_f hs hc1
    obtain ⟨r1, hc2, hs⟩ := oW_bx hs
    by_cases hc3 : r1 = nI 0
    · replace hs := oW_t hs hc3
      simp (implicitDefEqProofs := false) only [↓hG, ↓hJf, ↓px_vc, ↓px_ex, ↓px_jp, ↓rq_gi_0, ↓rq_gi_S, ↓rq_gl_0, ↓rq_gl_S, ↓rq_gr_0, ↓rq_gr_S, ↓rq_s1_0, ↓rq_s1_1, ↓rq_s1_S, ↓rq_s2_0, ↓rq_s2_1, ↓rq_s2_S, ↓rq_nl_n, ↓rq_nl_i, ↓rq_nl_l, ↓rq_nl_r, ↓rq_i1_s, ↓rq_l1_s, ↓r1_s, ↓rq_q1_s, ↓rq_i2_s, ↓rq_l2_s, ↓rq_il_s, ↓rq_d0_s, ↓rq_d1_i, ↓rq_d1_r, ↓rq_d2_l, ↓rq_d2_ii, ↓rq_d2_ir, ↓px_pop, ↓px_sp, ↓px_rd, ↓px_rf, ↓pn_xf, ↓rq_pt_0, ↓rq_pt_1, ↓rq_pt_2, ↓rq_pt_3, ↓px_sw, ↓pn_SW, ↓px_ma, ↓reduceIte, Nat.reduceEqDiff, Nat.reduceAdd, Nat.reduceSub, ↓Option.toList_some, ↓Option.toList_none, ↓List.cons_append, ↓List.nil_append, ↓kI_s, ↓kJ_s, ↓kN_s, ↓kO_s, ↓kZ_s, ↓kE_s, ↓an_rfl, ↓bt1 n00, ↓bt2 n00, ↓bf1 n10, ↓bf2 n10, ↓an_sz0, ↓an_sz1, ↓an_sz2, ↓an_sz3, ↓an_sz4, ↓an_ri, ↓an_rb0, ↓an_rb1, ↓an_b0, ↓an_b1, true_and, ↓ai_0s, ↓al_0s, ↓av_0s, ↓aq_0s, ↓ai_1s, ↓al_1s, ↓av_1s, ↓aq_1s, ↓ai_2s, ↓al_2s, ↓av_2s, ↓aq_2s, ↓ai_3s, ↓al_3s, ↓av_3s, ↓aq_3s, ↓ai_4s, ↓al_4s, ↓av_4s, ↓aq_4s, ↓ai_5s, ↓al_5s, ↓av_5s, ↓aq_5s, ↓ai_6s, ↓al_6s, ↓av_6s, ↓aq_6s, ↓ai_7s, ↓al_7s, ↓av_7s, ↓aq_7s, ↓an_l7, ↓bk_11024, ↓Sg_11006, ↓Sg_11025, ↓kp_11024_4, ↓kp_11024_49, ↓an_t hc0, ↓an_rv hc0, ↓bf1 hc1, ↓bf2 hc1, ↓oW_e hc2, ↓bt1 hc3, ↓bt2 hc3]
      exact hs
    · replace hs := oW_f hs hc3
      obtain ⟨r2, hc4, hs⟩ := oW_bx hs
      simp (implicitDefEqProofs := false) only [↓hG, ↓hJf, ↓px_vc, ↓px_ex, ↓px_jp, ↓rq_gi_0, ↓rq_gi_S, ↓rq_gl_0, ↓rq_gl_S, ↓rq_gr_0, ↓rq_gr_S, ↓rq_s1_0, ↓rq_s1_1, ↓rq_s1_S, ↓rq_s2_0, ↓rq_s2_1, ↓rq_s2_S, ↓rq_nl_n, ↓rq_nl_i, ↓rq_nl_l, ↓rq_nl_r, ↓rq_i1_s, ↓rq_l1_s, ↓r1_s, ↓rq_q1_s, ↓rq_i2_s, ↓rq_l2_s, ↓rq_il_s, ↓rq_d0_s, ↓rq_d1_i, ↓rq_d1_r, ↓rq_d2_l, ↓rq_d2_ii, ↓rq_d2_ir, ↓px_pop, ↓px_sp, ↓px_rd, ↓px_rf, ↓pn_xf, ↓rq_pt_0, ↓rq_pt_1, ↓rq_pt_2, ↓rq_pt_3, ↓px_sw, ↓pn_SW, ↓px_ma, ↓reduceIte, Nat.reduceEqDiff, Nat.reduceAdd, Nat.reduceSub, ↓Option.toList_some, ↓Option.toList_none, ↓List.cons_append, ↓List.nil_append, ↓kI_s, ↓kJ_s, ↓kN_s, ↓kO_s, ↓kZ_s, ↓kE_s, ↓an_rfl, ↓bt1 n00, ↓bt2 n00, ↓bf1 n10, ↓bf2 n10, ↓an_sz0, ↓an_sz1, ↓an_sz2, ↓an_sz3, ↓an_sz4, ↓an_ri, ↓an_rb0, ↓an_rb1, ↓an_b0, ↓an_b1, true_and, ↓ai_0s, ↓al_0s, ↓av_0s, ↓aq_0s, ↓ai_1s, ↓al_1s, ↓av_1s, ↓aq_1s, ↓ai_2s, ↓al_2s, ↓av_2s, ↓aq_2s, ↓ai_3s, ↓al_3s, ↓av_3s, ↓aq_3s, ↓ai_4s, ↓al_4s, ↓av_4s, ↓aq_4s, ↓ai_5s, ↓al_5s, ↓av_5s, ↓aq_5s, ↓ai_6s, ↓al_6s, ↓av_6s, ↓aq_6s, ↓ai_7s, ↓al_7s, ↓av_7s, ↓aq_7s, ↓an_l7, ↓bk_11024, ↓Sg_11006, ↓Sg_11025, ↓kp_11024_4, ↓kp_11024_49, ↓an_t hc0, ↓an_rv hc0, ↓bf1 hc1, ↓bf2 hc1, ↓oW_e hc2, ↓bf1 hc3, ↓bf2 hc3, ↓oW_e hc4]
      exact hs
set_option maxHeartbeats 4000000 in
set_option maxRecDepth 100000 in
theorem rl_11024_4 {C : px_C} (hn : px_nd (px_tb C)) {h : Nat} (hh : 3 ≤ h) (hC : px_ok C pn_i11024 h) {k : Option px_V → px_M → Prop} {x0 : Nat} {σ : px_M} : ∀ s : Int32 × Int32, oW (f_11024_4 (px_tb C) σ x0 s.1 s.2) (fun r => k (some (.inl r)) σ) → (fun s : Int32 × Int32 => ∀ (z1 : Option px_V) (z4 : Option px_V) (z5 : Option px_V) (z6 : Option px_V), px_W C k 4 [some (.inr (.inr (some x0))), z1, some (.inl s.1), some (.inl s.2), z4, z5, z6] [] σ) s := by
  intro s h0
  refine lpO_sound (P := (fun s : Int32 × Int32 => ∀ (z1 : Option px_V) (z4 : Option px_V) (z5 : Option px_V) (z6 : Option px_V), px_W C k 4 [some (.inr (.inr (some x0))), z1, some (.inl s.1), some (.inl s.2), z4, z5, z6] [] σ)) (fun s hs => ?_) h0
  obtain ⟨x2, x3⟩ := s
  intro z1 z4 z5 z6
  refine px_runH (h - 1) ck_11024 [] [(17, kp_11024_17 (fun y0 y2 y3 y4 τ => y0 = x0 ∧ τ = σ ∧ oW (f_11024_17 (px_tb C) τ y0 y3 y2 y4) (Sum.elim (fun s : Int32 × Int32 => ∀ (z1 : Option px_V) (z4 : Option px_V) (z5 : Option px_V) (z6 : Option px_V), px_W C k 4 [some (.inr (.inr (some x0))), z1, some (.inl s.1), some (.inl s.2), z4, z5, z6] [] σ) (fun r => k (some (.inl r)) σ))))] 80 7 (some .int) rfl rfl hC px_nosp (by omega) (px_cut1 (kq_11024_17 (fun y0 y2 y3 y4 τ hq => by obtain ⟨rfl, rfl, hq⟩ := hq; exact rl_11024_17 hn (by omega) hC (y2, y4) hq)) px_nocut) (fun G Jf hG hJf => ?_)
  replace hs : oW (F_11024_4 (px_tb C) σ x0 x2 x3) _ := hs
  unfold F_11024_4 at hs
  obtain ⟨hc0, hs⟩ := oW_gx hs
  by_cases hc1 : ((σ).1 x0 0) ≤ x3
  · replace hs := oW_t hs hc1
    simp (implicitDefEqProofs := false) only [↓hG, ↓hJf, ↓px_vc, ↓px_ex, ↓px_jp, ↓rq_gi_0, ↓rq_gi_S, ↓rq_gl_0, ↓rq_gl_S, ↓rq_gr_0, ↓rq_gr_S, ↓rq_s1_0, ↓rq_s1_1, ↓rq_s1_S, ↓rq_s2_0, ↓rq_s2_1, ↓rq_s2_S, ↓rq_nl_n, ↓rq_nl_i, ↓rq_nl_l, ↓rq_nl_r, ↓rq_i1_s, ↓rq_l1_s, ↓r1_s, ↓rq_q1_s, ↓rq_i2_s, ↓rq_l2_s, ↓rq_il_s, ↓rq_d0_s, ↓rq_d1_i, ↓rq_d1_r, ↓rq_d2_l, ↓rq_d2_ii, ↓rq_d2_ir, ↓px_pop, ↓px_sp, ↓px_rd, ↓px_rf, ↓pn_xf, ↓rq_pt_0, ↓rq_pt_1, ↓rq_pt_2, ↓rq_pt_3, ↓px_sw, ↓pn_SW, ↓px_ma, ↓reduceIte, Nat.reduceEqDiff, Nat.reduceAdd, Nat.reduceSub, ↓Option.toList_some, ↓Option.toList_none, ↓List.cons_append, ↓List.nil_append, ↓kI_s, ↓kJ_s, ↓kN_s, ↓kO_s, ↓kZ_s, ↓kE_s, ↓an_rfl, ↓bt1 n00, ↓bt2 n00, ↓bf1 n10, ↓bf2 n10, ↓an_sz0, ↓an_sz1, ↓an_sz2, ↓an_sz3, ↓an_sz4, ↓an_ri, ↓an_rb0, ↓an_rb1, ↓an_b0, ↓an_b1, true_and, ↓ai_0s, ↓al_0s, ↓av_0s, ↓aq_0s, ↓ai_1s, ↓al_1s, ↓av_1s, ↓aq_1s, ↓ai_2s, ↓al_2s, ↓av_2s, ↓aq_2s, ↓ai_3s, ↓al_3s, ↓av_3s, ↓aq_3s, ↓ai_4s, ↓al_4s, ↓av_4s, ↓aq_4s, ↓ai_5s, ↓al_5s, ↓av_5s, ↓aq_5s, ↓ai_6s, ↓al_6s, ↓av_6s, ↓aq_6s, ↓ai_7s, ↓al_7s, ↓av_7s, ↓aq_7s, ↓an_l7, ↓bk_11024, ↓kp_11024_17, ↓an_t hc0, ↓an_rv hc0, ↓bt1 hc1, ↓bt2 hc1]
    rw [oW_some] at hs
    exact hs
  · replace hs := oW_f hs hc1
    simp (implicitDefEqProofs := false) only [↓hG, ↓hJf, ↓px_vc, ↓px_ex, ↓px_jp, ↓rq_gi_0, ↓rq_gi_S, ↓rq_gl_0, ↓rq_gl_S, ↓rq_gr_0, ↓rq_gr_S, ↓rq_s1_0, ↓rq_s1_1, ↓rq_s1_S, ↓rq_s2_0, ↓rq_s2_1, ↓rq_s2_S, ↓rq_nl_n, ↓rq_nl_i, ↓rq_nl_l, ↓rq_nl_r, ↓rq_i1_s, ↓rq_l1_s, ↓r1_s, ↓rq_q1_s, ↓rq_i2_s, ↓rq_l2_s, ↓rq_il_s, ↓rq_d0_s, ↓rq_d1_i, ↓rq_d1_r, ↓rq_d2_l, ↓rq_d2_ii, ↓rq_d2_ir, ↓px_pop, ↓px_sp, ↓px_rd, ↓px_rf, ↓pn_xf, ↓rq_pt_0, ↓rq_pt_1, ↓rq_pt_2, ↓rq_pt_3, ↓px_sw, ↓pn_SW, ↓px_ma, ↓reduceIte, Nat.reduceEqDiff, Nat.reduceAdd, Nat.reduceSub, ↓Option.toList_some, ↓Option.toList_none, ↓List.cons_append, ↓List.nil_append, ↓kI_s, ↓kJ_s, ↓kN_s, ↓kO_s, ↓kZ_s, ↓kE_s, ↓an_rfl, ↓bt1 n00, ↓bt2 n00, ↓bf1 n10, ↓bf2 n10, ↓an_sz0, ↓an_sz1, ↓an_sz2, ↓an_sz3, ↓an_sz4, ↓an_ri, ↓an_rb0, ↓an_rb1, ↓an_b0, ↓an_b1, true_and, ↓ai_0s, ↓al_0s, ↓av_0s, ↓aq_0s, ↓ai_1s, ↓al_1s, ↓av_1s, ↓aq_1s, ↓ai_2s, ↓al_2s, ↓av_2s, ↓aq_2s, ↓ai_3s, ↓al_3s, ↓av_3s, ↓aq_3s, ↓ai_4s, ↓al_4s, ↓av_4s, ↓aq_4s, ↓ai_5s, ↓al_5s, ↓av_5s, ↓aq_5s, ↓ai_6s, ↓al_6s, ↓av_6s, ↓aq_6s, ↓ai_7s, ↓al_7s, ↓av_7s, ↓aq_7s, ↓an_l7, ↓bk_11024, ↓kp_11024_17, ↓an_t hc0, ↓an_rv hc0, ↓bf1 hc1, ↓bf2 hc1]
    exact hs
set_option maxHeartbeats 4000000 in
set_option maxRecDepth 100000 in
theorem mf_11024 {tab : px_T} (hn : px_nd tab) {h : Nat} (hh : 3 ≤ h) : px_Ok tab pn_i11024 h (Sg_11024 (f_11024 tab)) := by
  refine px_mth hn (by decide +kernel) (fun av σ k hS => ?_) (fun C hT hC av σ k hS => ?_)
  · obtain ⟨x0, av0, e0, h0⟩ := av_0p hS
    obtain ⟨x1, av1, e1, h1⟩ := ai_1p h0
    obtain ⟨ez, hs⟩ := h1
    subst ez
    subst e1
    subst e0
    exact Nat.le_of_ble_eq_true rfl
  · obtain ⟨x0, av0, e0, h0⟩ := av_0p hS
    obtain ⟨x1, av1, e1, h1⟩ := ai_1p h0
    obtain ⟨ez, hs⟩ := h1
    subst ez
    subst e1
    subst e0
    subst hT
    show px_W C k 0 [some (.inr (.inr (some x0))), some (.inl x1), none, none, none, none, none] [] σ
    refine px_runH (h - 1) ck_11024 [] [(4, kp_11024_4 (fun y0 y2 y3 τ => τ = σ ∧ oW (f_11024_4 (px_tb C) τ y0 y2 y3) (fun r => k (some (.inl r)) σ)))] 80 7 (some .int) rfl rfl hC px_nosp (by omega) (px_cut1 (kq_11024_4 (fun y0 y2 y3 τ hq => by obtain ⟨rfl, hq⟩ := hq; exact rl_11024_4 hn (by omega) hC (y2, y3) hq)) px_nocut) (fun G Jf hG hJf => ?_)
    unfold f_11024 at hs
    simp (implicitDefEqProofs := false) only [↓hG, ↓hJf, ↓px_vc, ↓px_ex, ↓px_jp, ↓rq_gi_0, ↓rq_gi_S, ↓rq_gl_0, ↓rq_gl_S, ↓rq_gr_0, ↓rq_gr_S, ↓rq_s1_0, ↓rq_s1_1, ↓rq_s1_S, ↓rq_s2_0, ↓rq_s2_1, ↓rq_s2_S, ↓rq_nl_n, ↓rq_nl_i, ↓rq_nl_l, ↓rq_nl_r, ↓rq_i1_s, ↓rq_l1_s, ↓r1_s, ↓rq_q1_s, ↓rq_i2_s, ↓rq_l2_s, ↓rq_il_s, ↓rq_d0_s, ↓rq_d1_i, ↓rq_d1_r, ↓rq_d2_l, ↓rq_d2_ii, ↓rq_d2_ir, ↓px_pop, ↓px_sp, ↓px_rd, ↓px_rf, ↓pn_xf, ↓rq_pt_0, ↓rq_pt_1, ↓rq_pt_2, ↓rq_pt_3, ↓px_sw, ↓pn_SW, ↓px_ma, ↓reduceIte, Nat.reduceEqDiff, Nat.reduceAdd, Nat.reduceSub, ↓Option.toList_some, ↓Option.toList_none, ↓List.cons_append, ↓List.nil_append, ↓kI_s, ↓kJ_s, ↓kN_s, ↓kO_s, ↓kZ_s, ↓kE_s, ↓an_rfl, ↓bt1 n00, ↓bt2 n00, ↓bf1 n10, ↓bf2 n10, ↓an_sz0, ↓an_sz1, ↓an_sz2, ↓an_sz3, ↓an_sz4, ↓an_ri, ↓an_rb0, ↓an_rb1, ↓an_b0, ↓an_b1, true_and, ↓ai_0s, ↓al_0s, ↓av_0s, ↓aq_0s, ↓ai_1s, ↓al_1s, ↓av_1s, ↓aq_1s, ↓ai_2s, ↓al_2s, ↓av_2s, ↓aq_2s, ↓ai_3s, ↓al_3s, ↓av_3s, ↓aq_3s, ↓ai_4s, ↓al_4s, ↓av_4s, ↓aq_4s, ↓ai_5s, ↓al_5s, ↓av_5s, ↓aq_5s, ↓ai_6s, ↓al_6s, ↓av_6s, ↓aq_6s, ↓ai_7s, ↓al_7s, ↓av_7s, ↓aq_7s, ↓an_l7, ↓bk_11024, ↓kp_11024_4]
    exact hs
