/-! deeds: join, wall, enter, leave, weave, undo: class and model alike -/
def inc (d : Nat) : Nat := if d = 12 then 12 else d + 1
def SCD (l j : Nat) : Bool := SC l j || tb2 110 l j
def SMD (l j : Nat) : Bool := SM l j || uS l j
/-- a town, its rules, its past: in the class, in the model -/
def cld (σ : px_M) (n : Nat) (B : Nat → Nat) (nr : Nat) (S C : Nat → Nat) (d : Nat) (G : Nat → Nat → Int32) : Prop := clr σ n B nr S C ∧ ch σ 110 d G ∧ gw d G
def modl (τ : px_M) (n : Nat) (B : Nat → Nat) (nr : Nat) (S C : Nat → Nat) (d : Nat) (G : Nat → Nat → Int32) : Prop := mor τ n B nr S C ∧ mh τ 0 d G
def agD (σ : px_M) (fc : Option (Int32 × px_M)) (fm : px_M → Option (Int32 × px_M)) (n : Nat) (B : Nat → Nat) (nr : Nat) (S C : Nat → Nat) (d : Nat) (G : Nat → Nat → Int32) : Prop := ∃ r σ' n' B' d' G', fc = some (r, σ') ∧ fr SCD σ σ' ∧ cld σ' n' B' nr S C d' G' ∧ ∀ τ, modl τ n B nr S C d G → ∃ υ, fm τ = some (r, υ) ∧ fr SMD τ υ ∧ modl υ n' B' nr S C d' G'
theorem SCD_SC : ∀ l j, SCD l j = false → SC l j = false := fun l j h => by simp only [SCD, Bool.or_eq_false_iff] at h; exact h.1
theorem SCD_tb : ∀ l j, SCD l j = false → tb2 110 l j = false := fun l j h => by simp only [SCD, Bool.or_eq_false_iff] at h; exact h.2
theorem SMD_SM : ∀ l j, SMD l j = false → SM l j = false := fun l j h => by simp only [SMD, Bool.or_eq_false_iff] at h; exact h.1
theorem SMD_uS : ∀ l j, SMD l j = false → uS l j = false := fun l j h => by simp only [SMD, Bool.or_eq_false_iff] at h; exact h.2
theorem uS_tn : ∀ l j, uS l j = false → tn l j = false := fun l j h => by simp only [uS, Bool.or_eq_false_iff] at h; exact h.1
theorem uS_hs : ∀ l j, uS l j = false → hs l j = false := fun l j h => by simp only [uS, Bool.or_eq_false_iff] at h; exact h.2
theorem tb_hsC : ∀ l j, tb2 110 l j = false → hsC 110 l j = false := fun l j h => by simp only [tb2, Bool.or_eq_false_iff] at h; exact h.1
theorem tb_tw : ∀ l j, tb2 110 l j = false → tw2 111 l j = false := fun l j h => by simp only [tb2, Bool.or_eq_false_iff] at h; exact h.2
section
variable {σ τ : px_M} {n nr d n' : Nat} {B S C B' : Nat → Nat} {G : Nat → Nat → Int32}
theorem fr_fk {σ τ : px_M} (h : fk SM σ τ) : fr SMD σ τ := fr_mono h.1 (fun l j q => by
  simp only [Bool.or_eq_false_iff]; exact ⟨SMD_SM l j q, uS_tn l j (SMD_uS l j q)⟩)
theorem SC_f {l : Nat} (j : Nat) (h : l < 160 ∨ 242 ≤ l) : SC l j = false := by
  simp only [SC, Bool.and_eq_false_iff, decide_eq_false_iff_not]; omega
theorem clr_SC {υ : px_M} (h : fr SC σ υ) (hc : clr σ n B nr S C) : clr υ n B nr S C := ⟨⟨cR_fr h hc.1.1, ct_fr h (fun j => SC_f j (by omega)) (fun j => SC_f j (by omega)) hc.1.2⟩, cru_fr h (fun j => SC_f j (by omega)) (fun j => SC_f j (by omega)) (fun j => SC_f j (by omega)) (fun j => SC_f j (by omega)) hc.2.1, hc.2.2⟩
theorem ch_fr {Q : Nat → Nat → Bool} {A : Nat} {υ : px_M} (h : fr Q σ υ) (h3 : Q A 3 = false) (h4 : Q A 4 = false) (h7 : ∀ j, Q (A + 7) j = false) (hc : ch σ A d G) : ch υ A d G := by
  obtain ⟨c1, c2, L, c3, c4, c5⟩ := hc
  exact ⟨c1, by rw [h.1 A 3 h3]; exact c2, L, c3, by rw [h.1 A 4 h4]; exact c4, fun i hi => ⟨fun x hx => by rw [h.1 (A + 7) _ (h7 _)]; exact (c5 i hi).1 x hx, by rw [h.1 (A + 7) _ (h7 _)]; exact (c5 i hi).2⟩⟩
theorem cld_SC {υ : px_M} (h : fr SC σ υ) (hc : cld σ n B nr S C d G) : cld υ n B nr S C d G := ⟨clr_SC h hc.1, ch_fr h (SC_f _ (by omega)) (SC_f _ (by omega)) (fun j => SC_f j (by omega)) hc.2.1, hc.2.2⟩
theorem mh_row {off : Nat} {υ : px_M} (h : ∀ j, υ.1 1 j = σ.1 1 j) (hm : mh σ off d G) : mh υ off d G := ⟨hm.1, by rw [h]; exact hm.2.1, fun i hi j hj => by rw [h]; exact hm.2.2 i hi j hj⟩
theorem modl_fk {Q : Nat → Nat → Bool} {υ : px_M} (h : fk Q τ υ) (hm : modl τ n B nr S C d G) : modl υ n B nr S C d G := ⟨mor_fk h hm.1, mh_row h.2 hm.2⟩
theorem modl_thr (hm : modl τ n B nr S C d G) : modl (px_wi τ 0 0 (nI 0)) n B nr S C d G := modl_fk fk_thr hm
theorem mh_congr {off : Nat} {G' : Nat → Nat → Int32} (h : ∀ i, i < d → ∀ j, j < 12 → G i j = G' i j) (hm : mh σ off d G) : mh σ off d G' := ⟨hm.1, hm.2.1, fun i hi j hj => by rw [hm.2.2 i hi j hj]; exact h i hi j hj⟩
theorem gw_psh (hw : wf n B) (hg : gw d G) : gw (inc d) (psh G (trow n B)) := by
  intro i hi
  by_cases h : i = 0
  · exact ⟨n, B, hw, fun j _ => by unfold psh; rw [if_pos h]⟩
  · obtain ⟨m, B', h1, h2⟩ := hg (i - 1) (by unfold inc at hi; split at hi <;> omega)
    exact ⟨m, B', h1, fun j hj => by unfold psh; rw [if_neg h]; exact h2 j hj⟩
theorem al_110 (hR : cR σ.2.2) : al σ 110 := ⟨la_110, la_117, rc_110_0 hR, rc_110_5 hR⟩
/-- noted, then done: the class -/
theorem c_deed (hc : cld σ n B nr S C d G) (go : px_M → Option px_M) (hgo : ∀ ρ, cR ρ.2.2 → ct ρ 111 n B → ∃ υ, go ρ = some υ ∧ fr (tw2 111) ρ υ ∧ ct υ 111 n' B') : ∃ ρ υ, f_1004 tT σ 110 = some ρ ∧ cR ρ.2.2 ∧ go ρ = some υ ∧ fr SCD σ υ ∧ cld υ n' B' nr S C (inc d) (psh G (trow n B)) := by
  obtain ⟨⟨⟨hR, ht⟩, hcr, hru⟩, hch, hg⟩ := hc
  obtain ⟨ρ, q1, q2, q3⟩ := c_remember (al_110 hR) (fun j => rfl) ht hch
  have hRρ := cR_fr q2 hR
  have htρ : ct ρ 111 n B := ct_fr q2 (fun j => rfl) (fun j => rfl) ht
  obtain ⟨υ, p1, p2, p3⟩ := hgo ρ hRρ htρ
  have f1 : fr (tb2 110) σ υ := fr_tr (fr_mono q2 tb_hsC) (fr_mono p2 tb_tw)
  refine ⟨ρ, υ, q1, hRρ, p1, fr_mono f1 SCD_tb, ⟨⟨cR_fr p2 hRρ, p3⟩, ?_, hru⟩, ch_fr p2 rfl rfl (fun _ => rfl) q3, gw_psh ht.2.2.2.1 hg⟩
  exact cru_fr f1 (fun j => rfl) (fun j => rfl) (fun j => rfl) (fun j => rfl) hcr
def tn20 (l j : Nat) : Bool := tn l j || on 20 l j
theorem tn20_f {j : Nat} (h : 13 ≤ j) : tn20 1 j = false := by
  cases hq : tn20 1 j with
  | false => rfl
  | true =>
    simp only [tn20, tn, on, Bool.or_eq_true, Bool.and_eq_true, beq_iff_eq, decide_eq_true_eq] at hq
    omega
theorem tn_20 {σ τ : px_M} (h : fr tn σ τ) : fr tn20 σ τ := fr_mono h (fun l j q => by simp only [tn20, Bool.or_eq_false_iff] at q; exact q.1)
theorem SMD_20 : ∀ l j, SMD l j = false → tn20 l j = false := fun l j h => by
  simp only [tn20, Bool.or_eq_false_iff]
  refine ⟨uS_tn l j (SMD_uS l j h), ?_⟩
  simp only [on, beq_eq_false_iff_ne]
  intro q
  subst q
  have := SMD_SM _ _ h
  simp [SM] at this
/-- noted, then done: the model -/
theorem e_deed (hm : modl τ n B nr S C d G) (go : px_M → Option px_M) (hgo : ∀ ρ, mo ρ n B → ∃ υ, go ρ = some υ ∧ fr tn20 ρ υ ∧ mo υ n' B') : ∃ ρ υ, f_58 tT τ 0 = some ρ ∧ mo ρ n B ∧ go ρ = some υ ∧ fr SMD τ υ ∧ modl υ n' B' nr S C (inc d) (psh G (trow n B)) := by
  obtain ⟨⟨hm1, hm2⟩, hh⟩ := hm
  obtain ⟨ρ, q1, q2, q3⟩ := e_notes hm1.1 hh
  have m1 : mo ρ n B := ⟨mR_fr q2 hm1.1, hm1.2.1, by rw [q2.1 1 1 (hs_f (by omega))]; exact hm1.2.2.1, fun x hx => by rw [q2.1 1 _ (hs_f (by omega))]; exact hm1.2.2.2 x hx⟩
  obtain ⟨υ, p1, p2, p3⟩ := hgo ρ m1
  have hs8 : ∀ j, 158 ≤ j → hs 1 j = false := fun j hj => by simp [hs, show ¬ j < 158 by omega]
  refine ⟨ρ, υ, q1, m1, p1, fr_tr (fr_mono q2 (fun l j h => uS_hs l j (SMD_uS l j h))) (fr_mono p2 SMD_20), ⟨p3, ?_⟩, ?_⟩
  · exact mru_fr p2 (fun j hj => tn20_f (by omega)) (mru_fr q2 (fun j hj => hs8 j (by omega)) hm2)
  · obtain ⟨z1, z2, z3⟩ := q3
    refine ⟨z1, by rw [p2.1 1 _ (tn20_f (by omega))]; exact z2, fun i hi j hj => ?_⟩
    rw [p2.1 1 _ (tn20_f (by omega))]
    refine Eq.trans (z3 i hi j hj) ?_
    unfold psh
    by_cases h0 : i = 0
    · rw [if_pos h0, if_pos h0]; exact mo_row hm1 hj
    · rw [if_neg h0, if_neg h0]
theorem rjx_0 {x y : Int32} (hn : n ≤ 11) (h : rjx n B nr S C x y = 0) : ∃ a b, a < n ∧ b < n ∧ a ≠ b ∧ x = nI a ∧ y = nI b := by
  rcases pr_cases (n := n) x y hn with q | q
  · exact q
  · rw [rjx_out q] at h; omega
/-- what join leaves -/
noncomputable def jnB (n : Nat) (B : Nat → Nat) (nr : Nat) (S C : Nat → Nat) (x y : Int32) : Nat → Nat := if rjx n B nr S C x y = 0 then jn B x.toInt.toNat y.toInt.toNat else B
noncomputable def jnr (n : Nat) (B : Nat → Nat) (nr : Nat) (S C : Nat → Nat) (x y : Int32) : Int32 := if rjx n B nr S C x y = 0 then nI (dm n (jnB n B nr S C x y)) else -10 - nI (rjx n B nr S C x y)
def dd (c : Prop) [Decidable c] (d : Nat) : Nat := if c then inc d else d
def dG (c : Prop) [Decidable c] (n : Nat) (B : Nat → Nat) (G : Nat → Nat → Int32) : Nat → Nat → Int32 := if c then psh G (trow n B) else G
theorem c_join (hc : cld σ n B nr S C d G) (x y : Int32) : ∃ υ, f_12011 tT σ 100 x y = some (jnr n B nr S C x y, υ) ∧ fr SCD σ υ ∧ cld υ n (jnB n B nr S C x y) nr S C (dd (rjx n B nr S C x y = 0) d) (dG (rjx n B nr S C x y = 0) n B G) := by
  have hR := hc.1.1.1
  have hn := hc.1.1.2.2.2.2.1.1
  obtain ⟨ρ, q1, q2, q3⟩ := c_convN hc.1
  obtain ⟨ω, p1, p2, -⟩ := c_rjx q3 x y
  have hf := fr_CS (fr_tr q2 p2)
  have hcω := cld_SC hf hc
  have hle := rjx_le (n := n) (B := B) (nr := nr) (S := S) (C := C) x y
  unfold jnr jnB dd dG
  by_cases h0 : rjx n B nr S C x y = 0
  · rw [if_pos h0, if_pos h0, if_pos h0, if_pos h0]
    rw [h0] at p1
    obtain ⟨a, b, ha, hb, hab, rfl, rfl⟩ := rjx_0 hn h0
    have t1 : (nI a).toInt.toNat = a := by rw [nI_toInt (by omega)]; rfl
    have t2 : (nI b).toInt.toNat = b := by rw [nI_toInt (by omega)]; rfl
    rw [t1, t2]
    obtain ⟨ψ, υ, w1, w2, w3, w4, w5⟩ := c_deed hcω (fun ρ => f_11009 tT ρ 111 (nI a) (nI b)) (fun ρ _ ht => c_link ht ha hb hab)
    have hRω := hcω.1.1.1
    have hRυ := w5.1.1.1
    refine ⟨υ, ?_, fr_tr (fr_mono hf SCD_SC) w4, w5⟩
    simp only [f_12011, f_12011_30, la_100, la_110, la_111, la_210, rc_100_0 hR, rc_110_0 hR, gd_tt, oA_arr, px_obj_s, Option.bind_some, Option.map_some, Option.bind_none, eq_self, true_or, or_true, px_av_0, px_av_1, px_av_2, px_av_10, px_av_11, bn, wi_1, wi_2, wl_1, wl_21, wl_22, wr_1, wr_21, wr_22, Sum.elim_inl, Sum.elim_inr, ↓reduceIte, Nat.reduceLT, Nat.reduceLeDiff, not_false_eq_true, not_true_eq_false, Nat.reduceEqDiff, Nat.reduceAdd, reduceCtorEq, and_true, true_and, and_false, false_and, false_or, or_false, q1, rc_100_10 q3.1.1, p1, rc_100_0 hRω, w1, rc_100_0 w2, rc_110_0 w2, w3, rc_100_0 hRυ, rc_110_0 hRυ, c_doors w5.1.1.2]
  · rw [if_neg h0, if_neg h0, if_neg h0, if_neg h0]
    have z : ¬ nI (rjx n B nr S C x y) = nI 0 := by rw [nI_eq (by omega) (by omega)]; exact h0
    refine ⟨ω, ?_, fr_mono hf SCD_SC, hcω⟩
    simp only [f_12011, f_12011_25, la_100, la_110, la_210, rc_100_0 hR, rc_110_0 hR, gd_tt, oA_arr, px_obj_s, Option.bind_some, Option.map_some, Option.bind_none, eq_self, true_or, or_true, px_av_0, px_av_1, px_av_2, px_av_10, px_av_11, bn, wi_1, wi_2, wl_1, wl_21, wl_22, wr_1, wr_21, wr_22, Sum.elim_inl, Sum.elim_inr, ↓reduceIte, Nat.reduceLT, Nat.reduceLeDiff, not_false_eq_true, not_true_eq_false, Nat.reduceEqDiff, Nat.reduceAdd, reduceCtorEq, and_true, true_and, and_false, false_and, false_or, or_false, q1, rc_100_10 q3.1.1, p1, z]
theorem a_join (hc : cld σ n B nr S C d G) (x y : Int32) : agD σ (f_12011 tT σ 100 x y) (fun τ => f_61 tT τ 0 x y) n B nr S C d G := by
  have hn := hc.1.1.2.2.2.2.1.1
  have hru := hc.1.2.2
  obtain ⟨υ, q1, q2, q3⟩ := c_join hc x y
  refine ⟨_, υ, _, _, _, _, q1, q2, q3, fun τ hm => ?_⟩
  obtain ⟨ω, p1, p2⟩ := e_rjx (modl_thr hm).1 hru x y
  have hfk : fk SM τ ω := fk_tr fk_thr (fk_mono p2 SM_RQ)
  have hmω := modl_fk hfk hm
  have hle := rjx_le (n := n) (B := B) (nr := nr) (S := S) (C := C) x y
  unfold jnr jnB dd dG
  by_cases h0 : rjx n B nr S C x y = 0
  · rw [if_pos h0, if_pos h0, if_pos h0, if_pos h0]
    rw [h0] at p1
    obtain ⟨a, b, ha, hb, hab, rfl, rfl⟩ := rjx_0 hn h0
    have t1 : (nI a).toInt.toNat = a := by rw [nI_toInt (by omega)]; rfl
    have t2 : (nI b).toInt.toNat = b := by rw [nI_toInt (by omega)]; rfl
    rw [t1, t2]
    obtain ⟨ψ, χ, w1, w2, w3, w4, w5⟩ := e_deed hmω (fun ρ => f_15 tT ρ 1 (nI a) (nI b)) (fun ρ hm => by
      obtain ⟨χ, z1, z2, z3⟩ := e_joins hm ha hb hab
      exact ⟨χ, z1, tn_20 z2, z3⟩)
    refine ⟨χ, ?_, fr_tr (fr_fk hfk) w4, w5⟩
    simp only [f_61, f_61_27, la_0, gd_tt, oA_arr, px_obj_s, Option.bind_some, Option.map_some, Option.bind_none, eq_self, true_or, or_true, px_av_0, px_av_1, px_av_2, px_av_10, px_av_11, bn, wi_1, wi_2, wl_1, wl_21, wl_22, wr_1, wr_21, wr_22, Sum.elim_inl, Sum.elim_inr, ↓reduceIte, Nat.reduceLT, Nat.reduceLeDiff, not_false_eq_true, not_true_eq_false, Nat.reduceEqDiff, Nat.reduceAdd, reduceCtorEq, and_true, true_and, and_false, false_and, false_or, or_false, p1, w1, rm_0_1 w2.1, w3, e_doorMany w5.1.1]
  · rw [if_neg h0, if_neg h0, if_neg h0, if_neg h0]
    have z : ¬ nI (rjx n B nr S C x y) = nI 0 := by rw [nI_eq (by omega) (by omega)]; exact h0
    refine ⟨ω, ?_, fr_fk hfk, hmω⟩
    simp only [f_61, la_0, gd_tt, oA_arr, px_obj_s, Option.bind_some, Option.map_some, Option.bind_none, eq_self, true_or, or_true, px_av_0, px_av_1, px_av_2, px_av_10, px_av_11, bn, wi_1, wi_2, wl_1, wl_21, wl_22, wr_1, wr_21, wr_22, Sum.elim_inl, Sum.elim_inr, ↓reduceIte, Nat.reduceLT, Nat.reduceLeDiff, not_false_eq_true, not_true_eq_false, Nat.reduceEqDiff, Nat.reduceAdd, reduceCtorEq, and_true, true_and, and_false, false_and, false_or, or_false, p1, z]
/-! wall -/
def wlx (n : Nat) (B : Nat → Nat) (x y : Int32) : Nat := if (0 ≤ x.toInt ∧ x.toInt < n) ∧ (0 ≤ y.toInt ∧ y.toInt < n) ∧ x ≠ y then (if (B x.toInt.toNat).testBit y.toInt.toNat = true then 0 else 5) else 1
def wlB (n : Nat) (B : Nat → Nat) (x y : Int32) : Nat → Nat := if wlx n B x y = 0 then wl B x.toInt.toNat y.toInt.toNat else B
def wlr (n : Nat) (B : Nat → Nat) (x y : Int32) : Int32 := if wlx n B x y = 0 then nI (dm n (wlB n B x y)) else -10 - nI (wlx n B x y)
theorem wlx_in {a b : Nat} (hn : n ≤ 11) (ha : a < n) (hb : b < n) (hab : a ≠ b) : wlx n B (nI a) (nI b) = if (B a).testBit b = true then 0 else 5 := by
  unfold wlx
  have h1 : (nI a).toInt = a := nI_toInt (by omega)
  have h2 : (nI b).toInt = b := nI_toInt (by omega)
  rw [h1, h2, if_pos ⟨by omega, by omega, fun q => hab ((nI_eq (by omega) (by omega)).mp q)⟩]
  rfl
theorem wlx_out {x y : Int32} (h : (¬ (0 ≤ x.toInt ∧ x.toInt < n)) ∨ (¬ (0 ≤ y.toInt ∧ y.toInt < n)) ∨ x = y) : wlx n B x y = 1 := by
  unfold wlx
  rw [if_neg]
  rintro ⟨h1, h2, h3⟩
  rcases h with h | h | h
  · exact h h1
  · exact h h2
  · exact h3 h
theorem wlx_0 {x y : Int32} (hn : n ≤ 11) (h : wlx n B x y = 0) : ∃ a b, a < n ∧ b < n ∧ a ≠ b ∧ x = nI a ∧ y = nI b ∧ (B a).testBit b = true := by
  rcases pr_cases (n := n) x y hn with ⟨a, b, ha, hb, hab, rfl, rfl⟩ | q
  · rw [wlx_in hn ha hb hab] at h
    refine ⟨a, b, ha, hb, hab, rfl, rfl, ?_⟩
    by_cases q : (B a).testBit b = true
    · exact q
    · rw [if_neg q] at h; omega
  · rw [wlx_out q] at h; omega
theorem c_wlx (hR : cR σ.2.2) (hc : ct σ 111 n B) (x y : Int32) : f_12062 tT σ 100 x y = some (nI (wlx n B x y)) := by
  have hn := hc.2.2.2.1.1
  rcases pr_cases (n := n) x y hn with ⟨a, b, ha, hb, hab, rfl, rfl⟩ | h
  · rw [wlx_in hn ha hb hab]
    have p1 := c_isPair hc (a := a) (b := b) (by omega) (by omega)
    rw [decide_eq_true ⟨ha, hb, hab⟩, mb_t1] at p1
    have p2 := c_linked hc ha hb
    cases hq : (B a).testBit b with
    | false =>
      rw [hq, mb_f0] at p2
      simp only [f_12062, la_100, la_110, la_111, rc_100_0 hR, rc_110_0 hR, gd_tt, oA_arr, px_obj_s, Option.bind_some, Option.map_some, Option.bind_none, eq_self, true_or, or_true, px_av_0, px_av_1, px_av_2, px_av_10, px_av_11, bn, wi_1, wi_2, wl_1, wl_21, wl_22, wr_1, wr_21, wr_22, Sum.elim_inl, Sum.elim_inr, ↓reduceIte, Nat.reduceLT, Nat.reduceLeDiff, not_false_eq_true, not_true_eq_false, Nat.reduceEqDiff, Nat.reduceAdd, reduceCtorEq, and_true, true_and, and_false, false_and, false_or, or_false, p1, n10, p2, Bool.false_eq_true]
    | true =>
      rw [hq, mb_t1] at p2
      simp only [f_12062, la_100, la_110, la_111, rc_100_0 hR, rc_110_0 hR, gd_tt, oA_arr, px_obj_s, Option.bind_some, Option.map_some, Option.bind_none, eq_self, true_or, or_true, px_av_0, px_av_1, px_av_2, px_av_10, px_av_11, bn, wi_1, wi_2, wl_1, wl_21, wl_22, wr_1, wr_21, wr_22, Sum.elim_inl, Sum.elim_inr, ↓reduceIte, Nat.reduceLT, Nat.reduceLeDiff, not_false_eq_true, not_true_eq_false, Nat.reduceEqDiff, Nat.reduceAdd, reduceCtorEq, and_true, true_and, and_false, false_and, false_or, or_false, p1, n10, p2]
  · rw [wlx_out h]
    have p1 := c_pr0 hc h
    simp only [f_12062, la_100, la_110, la_111, rc_100_0 hR, rc_110_0 hR, gd_tt, oA_arr, px_obj_s, Option.bind_some, Option.map_some, Option.bind_none, eq_self, true_or, or_true, px_av_0, px_av_1, px_av_2, px_av_10, px_av_11, bn, wi_1, wi_2, wl_1, wl_21, wl_22, wr_1, wr_21, wr_22, Sum.elim_inl, Sum.elim_inr, ↓reduceIte, Nat.reduceLT, Nat.reduceLeDiff, not_false_eq_true, not_true_eq_false, Nat.reduceEqDiff, Nat.reduceAdd, reduceCtorEq, and_true, true_and, and_false, false_and, false_or, or_false, p1]
theorem wlx_le (x y : Int32) : wlx n B x y ≤ 5 := by
  unfold wlx
  repeat' split
  all_goals omega
theorem c_wall (hc : cld σ n B nr S C d G) (x y : Int32) : ∃ υ, f_12012 tT σ 100 x y = some (wlr n B x y, υ) ∧ fr SCD σ υ ∧ cld υ n (wlB n B x y) nr S C (dd (wlx n B x y = 0) d) (dG (wlx n B x y = 0) n B G) := by
  have hR := hc.1.1.1
  have hn := hc.1.1.2.2.2.2.1.1
  have p1 := c_wlx hR hc.1.1.2 x y
  have hle := wlx_le (n := n) (B := B) x y
  unfold wlr wlB dd dG
  by_cases h0 : wlx n B x y = 0
  · rw [if_pos h0, if_pos h0, if_pos h0, if_pos h0]
    rw [h0] at p1
    obtain ⟨a, b, ha, hb, hab, rfl, rfl, -⟩ := wlx_0 hn h0
    have t1 : (nI a).toInt.toNat = a := by rw [nI_toInt (by omega)]; rfl
    have t2 : (nI b).toInt.toNat = b := by rw [nI_toInt (by omega)]; rfl
    rw [t1, t2]
    obtain ⟨ψ, υ, w1, w2, w3, w4, w5⟩ := c_deed hc (fun ρ => f_11010 tT ρ 111 (nI a) (nI b)) (fun ρ _ ht => c_part ht ha hb hab)
    have hRυ := w5.1.1.1
    refine ⟨υ, ?_, w4, w5⟩
    simp only [f_12012, f_12012_35, la_100, la_110, la_111, rc_100_0 hR, rc_110_0 hR, gd_tt, oA_arr, px_obj_s, Option.bind_some, Option.map_some, Option.bind_none, eq_self, true_or, or_true, px_av_0, px_av_1, px_av_2, px_av_10, px_av_11, bn, wi_1, wi_2, wl_1, wl_21, wl_22, wr_1, wr_21, wr_22, Sum.elim_inl, Sum.elim_inr, ↓reduceIte, Nat.reduceLT, Nat.reduceLeDiff, not_false_eq_true, not_true_eq_false, Nat.reduceEqDiff, Nat.reduceAdd, reduceCtorEq, and_true, true_and, and_false, false_and, false_or, or_false, p1, w1, rc_100_0 w2, rc_110_0 w2, w3, rc_100_0 hRυ, rc_110_0 hRυ, c_doors w5.1.1.2]
  · rw [if_neg h0, if_neg h0, if_neg h0, if_neg h0]
    have z : ¬ nI (wlx n B x y) = nI 0 := by rw [nI_eq (by omega) (by omega)]; exact h0
    refine ⟨σ, ?_, fr_rf _ _, hc⟩
    simp only [f_12012, la_100, gd_tt, oA_arr, px_obj_s, Option.bind_some, Option.map_some, Option.bind_none, eq_self, true_or, or_true, px_av_0, px_av_1, px_av_2, px_av_10, px_av_11, bn, wi_1, wi_2, wl_1, wl_21, wl_22, wr_1, wr_21, wr_22, Sum.elim_inl, Sum.elim_inr, ↓reduceIte, Nat.reduceLT, Nat.reduceLeDiff, not_false_eq_true, not_true_eq_false, Nat.reduceEqDiff, Nat.reduceAdd, reduceCtorEq, and_true, true_and, and_false, false_and, false_or, or_false, p1, z]
theorem a_wall (hc : cld σ n B nr S C d G) (x y : Int32) : agD σ (f_12012 tT σ 100 x y) (fun τ => f_62 tT τ 0 x y) n B nr S C d G := by
  have hn := hc.1.1.2.2.2.2.1.1
  have hw := hc.1.1.2.2.2.2.1
  obtain ⟨υ, q1, q2, q3⟩ := c_wall hc x y
  refine ⟨_, υ, _, _, _, _, q1, q2, q3, fun τ hm => ?_⟩
  have hmω := modl_thr hm
  have hfk : fk SM τ (px_wi τ 0 0 (nI 0)) := fk_thr
  show ∃ υ, f_62 tT τ 0 x y = _ ∧ _
  unfold wlr wlB dd dG f_62
  generalize px_wi τ 0 0 (nI 0) = ω at hmω hfk ⊢
  have m1 := hmω.1.1
  rcases pr_cases (n := n) x y hn with ⟨a, b, ha, hb, hab, rfl, rfl⟩ | h
  · have t1 : (nI a).toInt.toNat = a := by rw [nI_toInt (by omega)]; rfl
    have t2 : (nI b).toInt.toNat = b := by rw [nI_toInt (by omega)]; rfl
    rw [wlx_in hn ha hb hab, t1, t2]
    have k1 := e_hs m1 ha
    have k2 := e_hs m1 hb
    have k3 := e_near m1 (show a < 11 by omega)
    have hBa := wf_2048 hw a
    have k4 := e_isIn ω (s := B a) (j := b) (by omega) (by omega)
    have l3 : (nI (B a)).toInt64 = lN (B a) := nI_l (by omega)
    have hne : ¬ nI a = nI b := fun q => hab ((nI_eq (by omega) (by omega)).mp q)
    by_cases hq : (B a).testBit b = true
    · rw [hq, mb_t1] at k4
      simp only [if_pos hq, ↓reduceIte]
      obtain ⟨ψ, χ, w1, w2, w3, w4, w5⟩ := e_deed hmω (fun ρ => f_59 tT ρ 0 (nI a) (nI b)) (fun ρ hm => by
        obtain ⟨χ, z1, z2, z3⟩ := e_walls hm ha hb hab
        exact ⟨χ, z1, tn_20 z2, z3⟩)
      refine ⟨χ, ?_, fr_tr (fr_fk hfk) w4, w5⟩
      simp only [f_62_31, f_62_51, la_0, gd_tt, oA_arr, px_obj_s, Option.bind_some, Option.map_some, Option.bind_none, eq_self, true_or, or_true, px_av_0, px_av_1, px_av_2, px_av_10, px_av_11, bn, wi_1, wi_2, wl_1, wl_21, wl_22, wr_1, wr_21, wr_22, Sum.elim_inl, Sum.elim_inr, ↓reduceIte, Nat.reduceLT, Nat.reduceLeDiff, not_false_eq_true, not_true_eq_false, Nat.reduceEqDiff, Nat.reduceAdd, reduceCtorEq, and_true, true_and, and_false, false_and, false_or, or_false, k1, k2, n10, hne, k3, l3, k4, w1, w3, e_doorMany w5.1.1]
    · have hq' : (B a).testBit b = false := Bool.eq_false_iff.mpr hq
      rw [hq', mb_f0] at k4
      have z5 : ¬ (5 : Nat) = 0 := by decide
      simp only [if_neg hq, z5, ↓reduceIte]
      refine ⟨ω, ?_, fr_fk hfk, hmω⟩
      simp only [f_62_31, la_0, gd_tt, oA_arr, px_obj_s, Option.bind_some, Option.map_some, Option.bind_none, eq_self, true_or, or_true, px_av_0, px_av_1, px_av_2, px_av_10, px_av_11, bn, wi_1, wi_2, wl_1, wl_21, wl_22, wr_1, wr_21, wr_22, Sum.elim_inl, Sum.elim_inr, ↓reduceIte, Nat.reduceLT, Nat.reduceLeDiff, not_false_eq_true, not_true_eq_false, Nat.reduceEqDiff, Nat.reduceAdd, reduceCtorEq, and_true, true_and, and_false, false_and, false_or, or_false, k1, k2, n10, hne, k3, l3, k4]
      rfl
  · rw [wlx_out h]
    have z5 : ¬ (1 : Nat) = 0 := by decide
    simp only [z5, ↓reduceIte]
    refine ⟨ω, ?_, fr_fk hfk, hmω⟩
    rcases hs_cases x hn with ⟨a, ha, rfl⟩ | h1
    · have k1 := e_hs m1 ha
      rcases hs_cases y hn with ⟨b, hb, rfl⟩ | h2
      · have k2 := e_hs m1 hb
        have hab : nI a = nI b := by
          rcases h with h | h | h
          · exact absurd (by rw [nI_toInt (by omega)]; omega) h
          · exact absurd (by rw [nI_toInt (by omega)]; omega) h
          · exact h
        rw [hab] at k1 ⊢
        simp only [f_62_28, la_0, gd_tt, oA_arr, px_obj_s, Option.bind_some, Option.map_some, Option.bind_none, eq_self, true_or, or_true, px_av_0, px_av_1, px_av_2, px_av_10, px_av_11, bn, wi_1, wi_2, wl_1, wl_21, wl_22, wr_1, wr_21, wr_22, Sum.elim_inl, Sum.elim_inr, ↓reduceIte, Nat.reduceLT, Nat.reduceLeDiff, not_false_eq_true, not_true_eq_false, Nat.reduceEqDiff, Nat.reduceAdd, reduceCtorEq, and_true, true_and, and_false, false_and, false_or, or_false, k1, k2, n10]
        rfl
      · have k2 := e_hs0 m1 h2
        simp only [f_62_28, la_0, gd_tt, oA_arr, px_obj_s, Option.bind_some, Option.map_some, Option.bind_none, eq_self, true_or, or_true, px_av_0, px_av_1, px_av_2, px_av_10, px_av_11, bn, wi_1, wi_2, wl_1, wl_21, wl_22, wr_1, wr_21, wr_22, Sum.elim_inl, Sum.elim_inr, ↓reduceIte, Nat.reduceLT, Nat.reduceLeDiff, not_false_eq_true, not_true_eq_false, Nat.reduceEqDiff, Nat.reduceAdd, reduceCtorEq, and_true, true_and, and_false, false_and, false_or, or_false, k1, k2, n10]
        rfl
    · have k1 := e_hs0 m1 h1
      simp only [f_62_28, la_0, gd_tt, oA_arr, px_obj_s, Option.bind_some, Option.map_some, Option.bind_none, eq_self, true_or, or_true, px_av_0, px_av_1, px_av_2, px_av_10, px_av_11, bn, wi_1, wi_2, wl_1, wl_21, wl_22, wr_1, wr_21, wr_22, Sum.elim_inl, Sum.elim_inr, ↓reduceIte, Nat.reduceLT, Nat.reduceLeDiff, not_false_eq_true, not_true_eq_false, Nat.reduceEqDiff, Nat.reduceAdd, reduceCtorEq, and_true, true_and, and_false, false_and, false_or, or_false, k1]
      rfl
/-! enter -/
theorem in_2n {x : Int32} (hn : n ≤ 11) (h : x &&& (nI (2 ^ n - 1) ^^^ (-1)) = nI 0) : ∃ s, s < 2 ^ n ∧ x = nI s := by
  refine ⟨bs (fun i => bt x i) n, bs_2n _ (Nat.le_refl n), ?_⟩
  apply b_ext
  intro i hi
  rw [bt_nI, bs_tb, decide_eq_true hi, Bool.true_and]
  by_cases hin : i < n
  · simp [hin]
  · have h1 : bt (x &&& (nI (2 ^ n - 1) ^^^ (-1))) i = bt (nI 0) i := by rw [h]
    rw [b_and, b_xor, b_m1 i hi, bt_mask hi, bt_nI, Nat.zero_testBit] at h1
    simp only [hin, decide_false, Bool.false_xor, Bool.and_true, Bool.and_false] at h1
    rw [h1]
    simp [hin]
theorem en_cases (x : Int32) (hn : n ≤ 11) : (∃ s, s < 2 ^ n ∧ x = nI s) ∨ ¬ (((0 : Nat) : Int) ≤ x.toInt ∧ x.toInt ≤ ((2 ^ n - 1 : Nat) : Int)) := by
  have hp := Nat.two_pow_pos n
  have hp2 := pw_le hn
  rcases rg_cases x 0 (2 ^ n - 1) (by omega) with ⟨s, -, h, rfl⟩ | h
  · exact Or.inl ⟨s, by omega, rfl⟩
  · exact Or.inr h
theorem c_re1 {R T : Nat} (hc : cnv σ R T nr S C n B) {x : Int32} (h : ¬ (((0 : Nat) : Int) ≤ x.toInt ∧ x.toInt ≤ ((2 ^ n - 1 : Nat) : Int))) : f_2006 tT σ 210 x = some (nI 1, σ) := by
  obtain ⟨c1, ⟨c2, c3⟩, c4, c5, c6, c7, c8⟩ := id hc.1
  have hn := c8.2.2.2.1.1
  have hp2 := pw_le hn
  have k0 := c_all c8
  have z : ¬ (x &&& (nI (2 ^ n - 1) ^^^ (-1)) = nI 0) := fun q => by
    obtain ⟨s, h1, rfl⟩ := in_2n hn q
    exact h (by rw [nI_toInt (by omega)]; omega)
  simp only [f_2006, la_210, c3, c8.1, gd_tt, oA_arr, px_obj_s, Option.bind_some, Option.map_some, Option.bind_none, eq_self, true_or, or_true, px_av_0, px_av_1, px_av_2, px_av_10, px_av_11, bn, wi_1, wi_2, wl_1, wl_21, wl_22, wr_1, wr_21, wr_22, Sum.elim_inl, Sum.elim_inr, ↓reduceIte, Nat.reduceLT, Nat.reduceLeDiff, not_false_eq_true, not_true_eq_false, Nat.reduceEqDiff, Nat.reduceAdd, reduceCtorEq, and_true, true_and, and_false, false_and, false_or, or_false, k0, z]
theorem e_re1 (hm : mo σ n B) {x : Int32} (h : ¬ (((0 : Nat) : Int) ≤ x.toInt ∧ x.toInt ≤ ((2 ^ n - 1 : Nat) : Int))) : f_65 tT σ 0 x.toInt64 = some (nI 1, σ) := by
  have hn := hm.2.1.1
  have hp2 := pw_le hn
  obtain ⟨hR, -, e1, -⟩ := id hm
  have w0 := e_withinN σ x (lo := 0) (hi := 2 ^ n - 1) (by omega) (by omega)
  rw [decide_eq_false h, mb_f0] at w0
  have sh : (lN 1 <<< ((nI n).toInt64 &&& 63)) - lN 1 = lN (2 ^ n - 1) := lsh n (by omega)
  have c3 : vp_in (nI 1) 3216 := (vp_in_eq (by omega)).mpr (by omega)
  have c4 : (nI 1).toNatClampNeg = 1 := nI_clamp (by omega)
  simp only [f_65, la_0, la_1, rm_0_1 hR, gd_tt, oA_arr, px_obj_s, Option.bind_some, Option.map_some, Option.bind_none, eq_self, true_or, or_true, px_av_0, px_av_1, px_av_2, px_av_10, px_av_11, bn, wi_1, wi_2, wl_1, wl_21, wl_22, wr_1, wr_21, wr_22, Sum.elim_inl, Sum.elim_inr, ↓reduceIte, Nat.reduceLT, Nat.reduceLeDiff, not_false_eq_true, not_true_eq_false, Nat.reduceEqDiff, Nat.reduceAdd, reduceCtorEq, and_true, true_and, and_false, false_and, false_or, or_false, c3, c4, e1, sh, w0]
theorem re_le (s : Nat) : re n B nr S C s ≤ 6 := by
  unfold re
  repeat' split
  all_goals omega
theorem re_0 {s : Nat} (h : re n B nr S C s = 0) (hn : n ≤ 11) : n < 11 := by
  unfold re at h
  by_cases q : n = 11
  · rw [if_pos q] at h; omega
  · omega
/-- a house comes: the class's settle -/
theorem c_settle (hc : cld σ n B nr S C d G) (hn : n < 11) {s : Nat} (hs : s < 2 ^ n) : ∃ υ, f_12061 tT σ 100 (nI s) = some υ ∧ fr SCD σ υ ∧ cld υ (n + 1) (ah n B s) nr S C (inc d) (psh G (trow n B)) := by
  have hR := hc.1.1.1
  obtain ⟨ψ, υ, w1, w2, w3, w4, w5⟩ := c_deed hc (fun ρ => f_11011 tT ρ 111 (nI s)) (fun ρ _ ht => c_addHouse ht hn hs)
  refine ⟨υ, ?_, w4, w5⟩
  simp only [f_12061, la_100, la_110, la_111, rc_100_0 hR, gd_tt, oA_arr, px_obj_s, Option.bind_some, Option.map_some, Option.bind_none, eq_self, true_or, or_true, px_av_0, px_av_1, px_av_2, px_av_10, px_av_11, bn, wi_1, wi_2, wl_1, wl_21, wl_22, wr_1, wr_21, wr_22, Sum.elim_inl, Sum.elim_inr, ↓reduceIte, Nat.reduceLT, Nat.reduceLeDiff, not_false_eq_true, not_true_eq_false, Nat.reduceEqDiff, Nat.reduceAdd, reduceCtorEq, and_true, true_and, and_false, false_and, false_or, or_false, w1, rc_100_0 w2, rc_110_0 w2, w3]
theorem e_settle (hm : modl τ n B nr S C d G) (hn : n < 11) {s : Nat} (hs : s < 2 ^ n) : ∃ ρ υ, f_58 tT τ 0 = some ρ ∧ mo ρ n B ∧ f_64 tT ρ 0 (nI s) = some υ ∧ fr SMD τ υ ∧ modl υ (n + 1) (ah n B s) nr S C (inc d) (psh G (trow n B)) := e_deed hm (fun ρ => f_64 tT ρ 0 (nI s)) (fun ρ hm => by
    obtain ⟨χ, z1, z2, z3⟩ := e_enters hm hn hs
    exact ⟨χ, z1, tn_20 z2, z3⟩)
theorem a_enter (hc : cld σ n B nr S C d G) (x : Int32) : agD σ (f_12014 tT σ 100 x) (fun τ => f_66 tT τ 0 x) n B nr S C d G := by
  have hR := hc.1.1.1
  have hn := hc.1.1.2.2.2.2.1.1
  have hru := hc.1.2.2
  obtain ⟨ρ, q1, q2, q3⟩ := c_convN hc.1
  rcases en_cases x hn with ⟨s, hs, rfl⟩ | hno
  · obtain ⟨ω, p1, p2, -⟩ := c_re q3 hs
    have hf := fr_CS (fr_tr q2 p2)
    have hcω := cld_SC hf hc
    have hRω := hcω.1.1.1
    have hle := re_le (n := n) (B := B) (nr := nr) (S := S) (C := C) s
    have hp2 := pw_le hn
    have l2 : (nI s).toInt64 = lN s := nI_l (by omega)
    have c3 : vp_in (nI 1) 3216 := (vp_in_eq (by omega)).mpr (by omega)
    have c4 : (nI 1).toNatClampNeg = 1 := nI_clamp (by omega)
    by_cases h0 : re n B nr S C s = 0
    · have hn1 := re_0 h0 hn
      rw [h0] at p1
      obtain ⟨υ, w1, w2, w3⟩ := c_settle hcω hn1 hs
      have hRυ := w3.1.1.1
      have e1 := w3.1.1.2.2.2.2.2.1
      have sub1 : nI (n + 1) - nI 1 = nI n := by rw [ni_subL (by omega)]; rfl
      refine ⟨nI n, υ, n + 1, ah n B s, inc d, psh G (trow n B), ?_, fr_tr (fr_mono hf SCD_SC) w2, w3, fun τ hm => ?_⟩
      · simp only [f_12014, f_12014_29, la_100, la_110, la_111, la_210, rc_100_0 hR, rc_110_0 hR, gd_tt, oA_arr, px_obj_s, Option.bind_some, Option.map_some, Option.bind_none, eq_self, true_or, or_true, px_av_0, px_av_1, px_av_2, px_av_10, px_av_11, bn, wi_1, wi_2, wl_1, wl_21, wl_22, wr_1, wr_21, wr_22, Sum.elim_inl, Sum.elim_inr, ↓reduceIte, Nat.reduceLT, Nat.reduceLeDiff, not_false_eq_true, not_true_eq_false, Nat.reduceEqDiff, Nat.reduceAdd, reduceCtorEq, and_true, true_and, and_false, false_and, false_or, or_false, q1, rc_100_10 q3.1.1, p1, w1, rc_100_0 hRυ, rc_110_0 hRυ, e1, sub1]
      · obtain ⟨χ, z1, z2⟩ := e_re (modl_thr hm).1.1 hru (modl_thr hm).1.2 hs
        rw [h0] at z1
        have hfk : fk SM τ χ := fk_tr fk_thr (fk_mono z2 SM_RQ)
        obtain ⟨α, β, y1, y2, y3, y4, y5⟩ := e_settle (modl_fk hfk hm) hn1 hs
        refine ⟨β, ?_, fr_tr (fr_fk hfk) y4, y5⟩
        obtain ⟨hRm, -, e2, -⟩ := y5.1.1
        simp only [f_66, f_66_30, la_0, la_1, gd_tt, oA_arr, px_obj_s, Option.bind_some, Option.map_some, Option.bind_none, eq_self, true_or, or_true, px_av_0, px_av_1, px_av_2, px_av_10, px_av_11, bn, wi_1, wi_2, wl_1, wl_21, wl_22, wr_1, wr_21, wr_22, Sum.elim_inl, Sum.elim_inr, ↓reduceIte, Nat.reduceLT, Nat.reduceLeDiff, not_false_eq_true, not_true_eq_false, Nat.reduceEqDiff, Nat.reduceAdd, reduceCtorEq, and_true, true_and, and_false, false_and, false_or, or_false, l2, z1, y1, y3, rm_0_1 hRm, c3, c4, e2, sub1]
    · have z : ¬ nI (re n B nr S C s) = nI 0 := by rw [nI_eq (by omega) (by omega)]; exact h0
      refine ⟨-10 - nI (re n B nr S C s), ω, n, B, d, G, ?_, fr_mono hf SCD_SC, hcω, fun τ hm => ?_⟩
      · simp only [f_12014, f_12014_24, la_100, la_110, la_210, rc_100_0 hR, rc_110_0 hR, gd_tt, oA_arr, px_obj_s, Option.bind_some, Option.map_some, Option.bind_none, eq_self, true_or, or_true, px_av_0, px_av_1, px_av_2, px_av_10, px_av_11, bn, wi_1, wi_2, wl_1, wl_21, wl_22, wr_1, wr_21, wr_22, Sum.elim_inl, Sum.elim_inr, ↓reduceIte, Nat.reduceLT, Nat.reduceLeDiff, not_false_eq_true, not_true_eq_false, Nat.reduceEqDiff, Nat.reduceAdd, reduceCtorEq, and_true, true_and, and_false, false_and, false_or, or_false, q1, rc_100_10 q3.1.1, p1, z]
      · obtain ⟨χ, z1, z2⟩ := e_re (modl_thr hm).1.1 hru (modl_thr hm).1.2 hs
        have hfk : fk SM τ χ := fk_tr fk_thr (fk_mono z2 SM_RQ)
        refine ⟨χ, ?_, fr_fk hfk, modl_fk hfk hm⟩
        simp only [f_66, la_0, gd_tt, oA_arr, px_obj_s, Option.bind_some, Option.map_some, Option.bind_none, eq_self, true_or, or_true, px_av_0, px_av_1, px_av_2, px_av_10, px_av_11, bn, wi_1, wi_2, wl_1, wl_21, wl_22, wr_1, wr_21, wr_22, Sum.elim_inl, Sum.elim_inr, ↓reduceIte, Nat.reduceLT, Nat.reduceLeDiff, not_false_eq_true, not_true_eq_false, Nat.reduceEqDiff, Nat.reduceAdd, reduceCtorEq, and_true, true_and, and_false, false_and, false_or, or_false, l2, z1, z]
  · have p1 := c_re1 q3 hno
    have hf := fr_CS q2
    refine ⟨-10 - nI 1, ρ, n, B, d, G, ?_, fr_mono hf SCD_SC, cld_SC hf hc, fun τ hm => ?_⟩
    · simp only [f_12014, f_12014_24, la_100, la_110, la_210, rc_100_0 hR, rc_110_0 hR, gd_tt, oA_arr, px_obj_s, Option.bind_some, Option.map_some, Option.bind_none, eq_self, true_or, or_true, px_av_0, px_av_1, px_av_2, px_av_10, px_av_11, bn, wi_1, wi_2, wl_1, wl_21, wl_22, wr_1, wr_21, wr_22, Sum.elim_inl, Sum.elim_inr, ↓reduceIte, Nat.reduceLT, Nat.reduceLeDiff, not_false_eq_true, not_true_eq_false, Nat.reduceEqDiff, Nat.reduceAdd, reduceCtorEq, and_true, true_and, and_false, false_and, false_or, or_false, q1, rc_100_10 q3.1.1, p1, n10]
    · have z1 := e_re1 (modl_thr hm).1.1 hno
      refine ⟨_, ?_, fr_fk fk_thr, modl_thr hm⟩
      simp only [f_66, la_0, gd_tt, oA_arr, px_obj_s, Option.bind_some, Option.map_some, Option.bind_none, eq_self, true_or, or_true, px_av_0, px_av_1, px_av_2, px_av_10, px_av_11, bn, wi_1, wi_2, wl_1, wl_21, wl_22, wr_1, wr_21, wr_22, Sum.elim_inl, Sum.elim_inr, ↓reduceIte, Nat.reduceLT, Nat.reduceLeDiff, not_false_eq_true, not_true_eq_false, Nat.reduceEqDiff, Nat.reduceAdd, reduceCtorEq, and_true, true_and, and_false, false_and, false_or, or_false, z1, n10]
/-! leave, weave, undo -/
theorem a_leave (hc : cld σ n B nr S C d G) (x : Int32) : agD σ (f_12015 tT σ 100 x) (fun τ => f_69 tT τ 0 x) n B nr S C d G := by
  have hR := hc.1.1.1
  have hn := hc.1.1.2.2.2.2.1.1
  rcases hs_cases x hn with ⟨h, hh, rfl⟩ | hno
  · have k1 := c_hasI hc.1.1.2 hh
    obtain ⟨ψ, υ, w1, w2, w3, w4, w5⟩ := c_deed hc (fun ρ => f_11012 tT ρ 111 (nI h)) (fun ρ _ ht => c_drop ht hh)
    have hRυ := w5.1.1.1
    have e1 := w5.1.1.2.2.2.2.2.1
    refine ⟨nI (n - 1), υ, n - 1, dp n B h, inc d, psh G (trow n B), ?_, w4, w5, fun τ hm => ?_⟩
    · simp only [f_12015, f_12015_35, la_100, la_110, la_111, rc_100_0 hR, rc_110_0 hR, gd_tt, oA_arr, px_obj_s, Option.bind_some, Option.map_some, Option.bind_none, eq_self, true_or, or_true, px_av_0, px_av_1, px_av_2, px_av_10, px_av_11, bn, wi_1, wi_2, wl_1, wl_21, wl_22, wr_1, wr_21, wr_22, Sum.elim_inl, Sum.elim_inr, ↓reduceIte, Nat.reduceLT, Nat.reduceLeDiff, not_false_eq_true, not_true_eq_false, Nat.reduceEqDiff, Nat.reduceAdd, reduceCtorEq, and_true, true_and, and_false, false_and, false_or, or_false, k1, n10, w1, rc_100_0 w2, rc_110_0 w2, w3, rc_100_0 hRυ, rc_110_0 hRυ, e1]
    · have hm1 := modl_thr hm
      have k2 := e_hs hm1.1.1 hh
      obtain ⟨α, β, y1, y2, y3, y4, y5⟩ := e_deed hm1 (fun ρ => f_68 tT ρ 0 (nI h)) (fun ρ hm => by
        obtain ⟨χ, z1, z2, z3⟩ := e_leaves hm hh
        exact ⟨χ, z1, tn_20 z2, z3⟩)
      refine ⟨β, ?_, fr_tr (fr_fk fk_thr) y4, y5⟩
      obtain ⟨hRm, -, e2, -⟩ := y5.1.1
      have c3 : vp_in (nI 1) 3216 := (vp_in_eq (by omega)).mpr (by omega)
      have c4 : (nI 1).toNatClampNeg = 1 := nI_clamp (by omega)
      simp only [f_69, f_69_26, la_0, la_1, gd_tt, oA_arr, px_obj_s, Option.bind_some, Option.map_some, Option.bind_none, eq_self, true_or, or_true, px_av_0, px_av_1, px_av_2, px_av_10, px_av_11, bn, wi_1, wi_2, wl_1, wl_21, wl_22, wr_1, wr_21, wr_22, Sum.elim_inl, Sum.elim_inr, ↓reduceIte, Nat.reduceLT, Nat.reduceLeDiff, not_false_eq_true, not_true_eq_false, Nat.reduceEqDiff, Nat.reduceAdd, reduceCtorEq, and_true, true_and, and_false, false_and, false_or, or_false, k2, n10, y1, y3, rm_0_1 hRm, c3, c4, e2]
  · have k1 := c_has0 hc.1.1.2 hno
    refine ⟨-11, σ, n, B, d, G, ?_, fr_rf _ _, hc, fun τ hm => ⟨_, ?_, fr_fk fk_thr, modl_thr hm⟩⟩
    · simp only [f_12015, la_100, la_110, la_111, rc_100_0 hR, rc_110_0 hR, gd_tt, oA_arr, px_obj_s, Option.bind_some, Option.map_some, Option.bind_none, eq_self, true_or, or_true, px_av_0, px_av_1, px_av_2, px_av_10, px_av_11, bn, wi_1, wi_2, wl_1, wl_21, wl_22, wr_1, wr_21, wr_22, Sum.elim_inl, Sum.elim_inr, ↓reduceIte, Nat.reduceLT, Nat.reduceLeDiff, not_false_eq_true, not_true_eq_false, Nat.reduceEqDiff, Nat.reduceAdd, reduceCtorEq, and_true, true_and, and_false, false_and, false_or, or_false, k1]
    · have k2 := e_hs0 (modl_thr hm).1.1 hno
      simp only [f_69, la_0, gd_tt, oA_arr, px_obj_s, Option.bind_some, Option.map_some, Option.bind_none, eq_self, true_or, or_true, px_av_0, px_av_1, px_av_2, px_av_10, px_av_11, bn, wi_1, wi_2, wl_1, wl_21, wl_22, wr_1, wr_21, wr_22, Sum.elim_inl, Sum.elim_inr, ↓reduceIte, Nat.reduceLT, Nat.reduceLeDiff, not_false_eq_true, not_true_eq_false, Nat.reduceEqDiff, Nat.reduceAdd, reduceCtorEq, and_true, true_and, and_false, false_and, false_or, or_false, k2]
theorem a_weave (hc : cld σ n B nr S C d G) : agD σ (f_12016 tT σ 100) (fun τ => f_70 tT τ 0) n B nr S C d G := by
  have hR := hc.1.1.1
  have hw := hc.1.1.2.2.2.2.1
  have hn := hw.1
  have e0 := hc.1.1.2.2.2.2.2.1
  have c3 : vp_in (nI 1) 3216 := (vp_in_eq (by omega)).mpr (by omega)
  have c4 : (nI 1).toNatClampNeg = 1 := nI_clamp (by omega)
  by_cases h5 : n ≤ 5
  · have a1 : nI n ≤ nI 5 := by rw [nI_leI (by omega) (by omega)]; exact h5
    obtain ⟨ψ, υ, w1, w2, w3, w4, w5⟩ := c_deed hc (fun ρ => f_11013 tT ρ 111) (fun ρ _ ht => c_weave ht h5)
    have hRυ := w5.1.1.1
    have e1 := w5.1.1.2.2.2.2.2.1
    refine ⟨nI (2 * n + 1), υ, 2 * n + 1, wvn n B, inc d, psh G (trow n B), ?_, w4, w5, fun τ hm => ?_⟩
    · simp only [f_12016, la_100, la_110, la_111, rc_100_0 hR, rc_110_0 hR, gd_tt, oA_arr, px_obj_s, Option.bind_some, Option.map_some, Option.bind_none, eq_self, true_or, or_true, px_av_0, px_av_1, px_av_2, px_av_10, px_av_11, bn, wi_1, wi_2, wl_1, wl_21, wl_22, wr_1, wr_21, wr_22, Sum.elim_inl, Sum.elim_inr, ↓reduceIte, Nat.reduceLT, Nat.reduceLeDiff, not_false_eq_true, not_true_eq_false, Nat.reduceEqDiff, Nat.reduceAdd, reduceCtorEq, and_true, true_and, and_false, false_and, false_or, or_false, e0, a1, w1, rc_100_0 w2, rc_110_0 w2, w3, rc_100_0 hRυ, rc_110_0 hRυ, e1]
    · have hm1 := modl_thr hm
      have hgo : ∀ ρ, mo ρ n B → ∃ ρ2 υ, f_52 tT ρ 0 20 = some ρ2 ∧ mo ρ2 n B ∧ f_70_32 tT ρ2 0 (nI n) = some (nI (2 * n + 1), υ) ∧ fr tn20 ρ υ ∧ mo υ (2 * n + 1) (wvn n B) := by
        intro ρ hmρ
        obtain ⟨ρ2, b1, b2, b3⟩ := e_keeps hmρ.1 la_20 (by decide)
        have m2 := mo_on (by decide) b2 hmρ
        have w1 : fr tn ρ2 (px_wi ρ2 1 1 (nI (2 * n + 1))) := fr_wi (fr_rf _ _) _ rfl
        have m3 : mo (px_wi ρ2 1 1 (nI (2 * n + 1))) (2 * n + 1) B := ⟨m2.1, wf_big hw (by omega) (by omega), wi_s _ _ _ _, fun x hx => by
          show px_up ρ2.1 1 1 _ 1 (2 + x) = _
          rw [up_s, if_neg (by omega)]; exact m2.2.2.2 x hx⟩
        obtain ⟨b, q1, υ, rfl, q2, q3⟩ := e_weave45 h5 m3 hw (fun x hx => by
          rw [wi_n (by decide), b3 (1 + x) (by omega), show 1 + (1 + x) = 2 + x by omega]; exact hmρ.2.2.2 x hx)
        refine ⟨ρ2, υ, b1, m2, ?_, ?_, q3⟩
        · simp only [f_70_32, la_0, la_1, rm_0_1 m2.1, gd_tt, oA_arr, px_obj_s, Option.bind_some, Option.map_some, Option.bind_none, eq_self, true_or, or_true, px_av_0, px_av_1, px_av_2, px_av_10, px_av_11, bn, wi_1, wi_2, wl_1, wl_21, wl_22, wr_1, wr_21, wr_22, Sum.elim_inl, Sum.elim_inr, ↓reduceIte, Nat.reduceLT, Nat.reduceLeDiff, not_false_eq_true, not_true_eq_false, Nat.reduceEqDiff, Nat.reduceAdd, reduceCtorEq, and_true, true_and, and_false, false_and, false_or, or_false, c3, c4, pk_mul, nI_add, q1]
        · exact fr_tr (fr_mono b2 (fun l j q => by simp only [tn20, Bool.or_eq_false_iff] at q; exact q.2)) (tn_20 (fr_tr w1 q2))
      obtain ⟨α, β, y1, y2, y3, y4, y5⟩ := e_deed hm1 (fun ρ => (f_52 tT ρ 0 20).bind fun q => (f_70_32 tT q 0 (nI n)).bind fun z => some z.2) (fun ρ hmρ => by
        obtain ⟨ρ2, υ, z1, z2, z3, z4, z5⟩ := hgo ρ hmρ
        exact ⟨υ, by rw [z1, Option.bind_some, z3, Option.bind_some], z4, z5⟩)
      obtain ⟨ρ2, υ2, z1, z2, z3, z4, z5⟩ := hgo α y2
      have hβ : υ2 = β := by
        rw [z1, Option.bind_some, z3, Option.bind_some] at y3
        exact Option.some.inj y3
      subst hβ
      refine ⟨υ2, ?_, fr_tr (fr_fk fk_thr) y4, y5⟩
      show f_70 tT τ 0 = _
      obtain ⟨hRm, -, e2, -⟩ := hm1.1.1
      unfold f_70
      generalize px_wi τ 0 0 (nI 0) = ω at hRm e2 y1 ⊢
      simp only [la_0, la_1, rm_0_1 hRm, gd_tt, oA_arr, px_obj_s, Option.bind_some, Option.map_some, Option.bind_none, eq_self, true_or, or_true, px_av_0, px_av_1, px_av_2, px_av_10, px_av_11, bn, wi_1, wi_2, wl_1, wl_21, wl_22, wr_1, wr_21, wr_22, Sum.elim_inl, Sum.elim_inr, ↓reduceIte, Nat.reduceLT, Nat.reduceLeDiff, not_false_eq_true, not_true_eq_false, Nat.reduceEqDiff, Nat.reduceAdd, reduceCtorEq, and_true, true_and, and_false, false_and, false_or, or_false, c3, c4, e2, a1, y1, rm_0_20 y2.1, z1, z3]
  · have a1 : ¬ nI n ≤ nI 5 := by rw [nI_leI (by omega) (by omega)]; exact h5
    refine ⟨-4, σ, n, B, d, G, ?_, fr_rf _ _, hc, fun τ hm => ⟨_, ?_, fr_fk fk_thr, modl_thr hm⟩⟩
    · simp only [f_12016, la_100, la_110, la_111, rc_100_0 hR, rc_110_0 hR, gd_tt, oA_arr, px_obj_s, Option.bind_some, Option.map_some, Option.bind_none, eq_self, true_or, or_true, px_av_0, px_av_1, px_av_2, px_av_10, px_av_11, bn, wi_1, wi_2, wl_1, wl_21, wl_22, wr_1, wr_21, wr_22, Sum.elim_inl, Sum.elim_inr, ↓reduceIte, Nat.reduceLT, Nat.reduceLeDiff, not_false_eq_true, not_true_eq_false, Nat.reduceEqDiff, Nat.reduceAdd, reduceCtorEq, and_true, true_and, and_false, false_and, false_or, or_false, e0, a1]
    · show f_70 tT τ 0 = _
      obtain ⟨hRm, -, e2, -⟩ := (modl_thr hm).1.1
      unfold f_70
      generalize px_wi τ 0 0 (nI 0) = ω at hRm e2 ⊢
      simp only [la_0, la_1, rm_0_1 hRm, gd_tt, oA_arr, px_obj_s, Option.bind_some, Option.map_some, Option.bind_none, eq_self, true_or, or_true, px_av_0, px_av_1, px_av_2, px_av_10, px_av_11, bn, wi_1, wi_2, wl_1, wl_21, wl_22, wr_1, wr_21, wr_22, Sum.elim_inl, Sum.elim_inr, ↓reduceIte, Nat.reduceLT, Nat.reduceLeDiff, not_false_eq_true, not_true_eq_false, Nat.reduceEqDiff, Nat.reduceAdd, reduceCtorEq, and_true, true_and, and_false, false_and, false_or, or_false, c3, c4, e2, a1]
theorem gw_sh {m : Nat} (hg : gw d G) (hm : m ≤ d) : gw (d - m) (fun i => G (i + m)) := fun i hi => hg (i + m) (by omega)
theorem a_undo (hc : cld σ n B nr S C d G) (x : Int32) : agD σ (f_12017 tT σ 100 x) (fun τ => f_71 tT τ 0 x) n B nr S C d G := by
  have hR := hc.1.1.1
  obtain ⟨d12, h3, -⟩ := hc.2.1
  have c3 : vp_in (nI 13) 3216 := (vp_in_eq (by omega)).mpr (by omega)
  have c4 : (nI 13).toNatClampNeg = 13 := nI_clamp (by omega)
  rcases rg_cases x 1 12 (by omega) with ⟨m, hm1, hm12, rfl⟩ | hno
  · have a1 : ¬ nI m < nI 1 := by rw [nI_ltI (by omega) (by omega)]; omega
    have a2 : ¬ nI 12 < nI m := by rw [nI_ltI (by omega) (by omega)]; omega
    have w0 : ∀ ω, f_2 tT ω (nI m).toInt64 (lN 1) (lN 12) = some (nI 1) := fun ω => by
      rw [e_withinN ω (nI m) (lo := 1) (hi := 12) (by omega) (by omega), decide_eq_true (by rw [nI_toInt (by omega)]; omega), mb_t1]
    by_cases hmd : m ≤ d
    · have a3 : nI m ≤ nI d := by rw [nI_leI (by omega) (by omega)]; exact hmd
      obtain ⟨υ, q1, q2, q3, n', B', q4, q5⟩ := c_takeBack (al_110 hR) (fun j => rfl) (fun j => rfl) hc.1.1.2 hc.2.1 hc.2.2 hmd
      have hRυ := cR_fr q2 hR
      have hcυ : cld υ n' B' nr S C (d - m) (fun i => G (i + m)) := ⟨⟨⟨hRυ, q4⟩, cru_fr q2 (fun j => rfl) (fun j => rfl) (fun j => rfl) (fun j => rfl) hc.1.2.1, hc.1.2.2⟩, q3, gw_sh hc.2.2 hmd⟩
      refine ⟨nI (d - m), υ, n', B', d - m, fun i => G (i + m), ?_, fr_mono q2 SCD_tb, hcυ, fun τ hm => ?_⟩
      · simp only [f_12017, la_100, la_110, rc_100_0 hR, a1, a2, a3, h3, gd_tt, oA_arr, px_obj_s, Option.bind_some, Option.map_some, Option.bind_none, eq_self, true_or, or_true, px_av_0, px_av_1, px_av_2, px_av_10, px_av_11, bn, wi_1, wi_2, wl_1, wl_21, wl_22, wr_1, wr_21, wr_22, Sum.elim_inl, Sum.elim_inr, ↓reduceIte, Nat.reduceLT, Nat.reduceLeDiff, not_false_eq_true, not_true_eq_false, Nat.reduceEqDiff, Nat.reduceAdd, reduceCtorEq, and_true, true_and, and_false, false_and, false_or, or_false, q1, rc_100_0 hRυ, q3.2.1]
      · have hmt := modl_thr hm
        show ∃ υ, f_71 tT τ 0 (nI m) = _ ∧ _
        have hfk : fk SM τ (px_wi τ 0 0 (nI 0)) := fk_thr
        unfold f_71
        generalize px_wi τ 0 0 (nI 0) = ω at hmt hfk ⊢
        have hRm := hmt.1.1.1
        have v13 := hmt.2.2.1
        rw [Nat.zero_add] at v13
        obtain ⟨χ, y1, y2, y3, y4⟩ := e_undo hRm hmt.2 hmd hm1
        refine ⟨χ, ?_, fr_tr (fr_fk hfk) (fr_mono y2 SMD_uS), ⟨mo_of_row (mR_fr y2 hRm) q4.2.2.2.1 (fun j hj => ?_), ?_⟩, y3⟩
        · simp only [la_0, la_1, rm_0_1 hRm, gd_tt, oA_arr, px_obj_s, Option.bind_some, Option.map_some, Option.bind_none, eq_self, true_or, or_true, px_av_0, px_av_1, px_av_2, px_av_10, px_av_11, bn, wi_1, wi_2, wl_1, wl_21, wl_22, wr_1, wr_21, wr_22, Sum.elim_inl, Sum.elim_inr, ↓reduceIte, Nat.reduceLT, Nat.reduceLeDiff, not_false_eq_true, not_true_eq_false, Nat.reduceEqDiff, Nat.reduceAdd, reduceCtorEq, and_true, true_and, and_false, false_and, false_or, or_false, w0, n10, c3, c4, v13, a3, ni_subL hmd, y1]
        · rw [y4 j hj, q5 j hj, if_neg (by omega)]
        · refine mru_fr y2 (fun j hj => ?_) hmt.1.2
          cases hq : uS 1 j with
          | false => rfl
          | true =>
            simp only [uS, tn, hs, Bool.or_eq_true, Bool.and_eq_true, beq_iff_eq, decide_eq_true_eq] at hq
            omega
    · have a3 : ¬ nI m ≤ nI d := by rw [nI_leI (by omega) (by omega)]; exact hmd
      refine ⟨-3, σ, n, B, d, G, ?_, fr_rf _ _, hc, fun τ hm => ?_⟩
      · simp only [f_12017, la_100, la_110, rc_100_0 hR, a1, a2, a3, h3, gd_tt, oA_arr, px_obj_s, Option.bind_some, Option.map_some, Option.bind_none, eq_self, true_or, or_true, px_av_0, px_av_1, px_av_2, px_av_10, px_av_11, bn, wi_1, wi_2, wl_1, wl_21, wl_22, wr_1, wr_21, wr_22, Sum.elim_inl, Sum.elim_inr, ↓reduceIte, Nat.reduceLT, Nat.reduceLeDiff, not_false_eq_true, not_true_eq_false, Nat.reduceEqDiff, Nat.reduceAdd, reduceCtorEq, and_true, true_and, and_false, false_and, false_or, or_false]
      · have hmt := modl_thr hm
        show ∃ υ, f_71 tT τ 0 (nI m) = _ ∧ _
        have hfk : fk SM τ (px_wi τ 0 0 (nI 0)) := fk_thr
        unfold f_71
        generalize px_wi τ 0 0 (nI 0) = ω at hmt hfk ⊢
        have hRm := hmt.1.1.1
        have v13 := hmt.2.2.1
        rw [Nat.zero_add] at v13
        refine ⟨ω, ?_, fr_fk hfk, hmt⟩
        simp only [f_71_28, la_0, la_1, rm_0_1 hRm, gd_tt, oA_arr, px_obj_s, Option.bind_some, Option.map_some, Option.bind_none, eq_self, true_or, or_true, px_av_0, px_av_1, px_av_2, px_av_10, px_av_11, bn, wi_1, wi_2, wl_1, wl_21, wl_22, wr_1, wr_21, wr_22, Sum.elim_inl, Sum.elim_inr, ↓reduceIte, Nat.reduceLT, Nat.reduceLeDiff, not_false_eq_true, not_true_eq_false, Nat.reduceEqDiff, Nat.reduceAdd, reduceCtorEq, and_true, true_and, and_false, false_and, false_or, or_false, w0, n10, c3, c4, v13, a3]
  · refine ⟨-3, σ, n, B, d, G, ?_, fr_rf _ _, hc, fun τ hm => ⟨_, ?_, fr_fk fk_thr, modl_thr hm⟩⟩
    · by_cases b1 : x < nI 1
      · simp only [f_12017, b1, ↓reduceIte]
      · have b2 : nI 12 < x := by
          rw [fa_lt, nI_toInt (by omega)] at b1
          rw [fa_lt, nI_toInt (by omega)]
          omega
        simp only [f_12017, b1, b2, ↓reduceIte]
    · have w0 := e_withinN (px_wi τ 0 0 (nI 0)) x (lo := 1) (hi := 12) (by omega) (by omega)
      rw [decide_eq_false hno, mb_f0] at w0
      simp only [f_71, f_71_28, la_0, gd_tt, oA_arr, px_obj_s, Option.bind_some, Option.map_some, Option.bind_none, eq_self, true_or, or_true, px_av_0, px_av_1, px_av_2, px_av_10, px_av_11, bn, wi_1, wi_2, wl_1, wl_21, wl_22, wr_1, wr_21, wr_22, Sum.elim_inl, Sum.elim_inr, ↓reduceIte, Nat.reduceLT, Nat.reduceLeDiff, not_false_eq_true, not_true_eq_false, Nat.reduceEqDiff, Nat.reduceAdd, reduceCtorEq, and_true, true_and, and_false, false_and, false_or, or_false, w0]
end
