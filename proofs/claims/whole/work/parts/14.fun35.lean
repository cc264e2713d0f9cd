/-! shallow functions, printed by wip/whole/decomp.py -/
def Sg_2013 (g : px_M → Nat → Int32 → Int32 → Option (Int32 × px_M)) : px_S := fun av σ k => av_0 av (fun x0 av => ai_1 av (fun x1 av => ai_2 av (fun x2 av => av = [] ∧ oW (g σ x0 x1 x2) (fun q => k (some (.inl q.1)) q.2))))
/-- NoThree$Council.standsFor(II)Z -/
def bkx_2013 : Nat → Nat × List px_E := fun pc => match pc with
  | 0 => (10, [(0, .iload_n 1, 1, 1, 0, 0, .inl 0), (1, .ifCond .lt 9, 3, 10, 0, 0, .inl 0), (4, .iload_n 1, 1, 1, 0, 0, .inl 0), (5, .bipush 6, 2, 0, 0, 0, .inl (nI 6)), (7, .if_icmp .lt 5, 3, 12, 0, 0, .inl 0)])
  | 10 => (12, [(10, .iconst 0, 1, 0, 0, 0, .inl (nI 0)), (11, .ireturn, 1, 0, 0, 0, .inl 0)])
  | 12 => (30, [(12, .aload_n 0, 1, 0, 0, 0, .inl 0), (13, .getfield 38, 3, 2, 5, 2, .inl 0), (16, .getfield 147, 3, 10, 1, 2, .inl 0), (19, .iload_n 1, 1, 1, 0, 0, .inl 0), (20, .iconst 1, 1, 0, 0, 0, .inl (nI 1)), (21, .iadd, 1, 0, 0, 0, .inl 0), (22, .iaload, 1, 0, 0, 0, .inl 0), (23, .sipush 900, 3, 0, 0, 0, .inl (nI 900)), (26, .invokestatic 150, 3, 20001, 2, 2, .inl 0), (29, .istore_n 3, 1, 3, 0, 0, .inl 0)])
  | 30 => (48, [(30, .iconst 0, 1, 0, 0, 0, .inl (nI 0)), (31, .istore 4, 2, 4, 0, 0, .inl 0), (33, .aload_n 0, 1, 0, 0, 0, .inl 0), (34, .getfield 38, 3, 2, 5, 2, .inl 0), (37, .getfield 147, 3, 10, 1, 2, .inl 0), (40, .iload_n 1, 1, 1, 0, 0, .inl 0), (41, .iaload, 1, 0, 0, 0, .inl 0), (42, .iconst 0, 1, 0, 0, 0, .inl (nI 0)), (43, .invokestatic 155, 3, 20000, 2, 1, .inl 0), (46, .istore 5, 2, 5, 0, 0, .inl 0)])
  | 48 => (74, [(48, .iload 5, 2, 5, 0, 0, .inl 0), (50, .iload_n 3, 1, 3, 0, 0, .inl 0), (51, .if_icmp .ge 144, 3, 195, 0, 0, .inl 0), (54, .aload_n 0, 1, 0, 0, 0, .inl 0), (55, .getfield 38, 3, 2, 5, 2, .inl 0), (58, .getfield 158, 3, 10, 3, 2, .inl 0), (61, .iload 5, 2, 5, 0, 0, .inl 0), (63, .iaload, 1, 0, 0, 0, .inl 0), (64, .istore 6, 2, 6, 0, 0, .inl 0), (66, .iload 6, 2, 6, 0, 0, .inl 0), (68, .sipush 2000, 3, 0, 0, 0, .inl (nI 2000)), (71, .if_icmp .ge 43, 3, 114, 0, 0, .inl 0)])
  | 74 => (100, [(74, .iload 4, 2, 4, 0, 0, .inl 0), (76, .bipush 64, 2, 0, 0, 0, .inl (nI 64)), (78, .if_icmp .ge 111, 3, 189, 0, 0, .inl 0), (81, .aload_n 0, 1, 0, 0, 0, .inl 0), (82, .getfield 25, 3, 2, 2, 2, .inl 0), (85, .iload 4, 2, 4, 0, 0, .inl 0), (87, .iload 6, 2, 6, 0, 0, .inl 0), (89, .sipush 1000, 3, 0, 0, 0, .inl (nI 1000)), (92, .if_icmp .ge 8, 3, 100, 0, 0, .inl 0), (95, .iload 6, 2, 6, 0, 0, .inl 0), (97, .goto 10, 3, 107, 0, 0, .inl 0)])
  | 100 => (107, [(100, .aload_n 0, 1, 0, 0, 0, .inl 0), (101, .iload 6, 2, 6, 0, 0, .inl 0), (103, .iload_n 2, 1, 2, 0, 0, .inl 0), (104, .invokevirtual 161, 3, 2012, 3, 2, .inl 0)])
  | 107 => (108, [(107, .iastore, 1, 0, 0, 0, .inl 0)])
  | 108 => (114, [(108, .iinc 4 1, 3, 4, 0, 0, .inl (nI 1)), (111, .goto 78, 3, 189, 0, 0, .inl 0)])
  | 114 => (135, [(114, .iload 6, 2, 6, 0, 0, .inl 0), (116, .sipush 2006, 3, 0, 0, 0, .inl (nI 2006)), (119, .if_icmp .ne 31, 3, 150, 0, 0, .inl 0), (122, .iload 4, 2, 4, 0, 0, .inl 0), (124, .ifCond .le 65, 3, 189, 0, 0, .inl 0), (127, .aload_n 0, 1, 0, 0, 0, .inl 0), (128, .getfield 25, 3, 2, 2, 2, .inl 0), (131, .iload 4, 2, 4, 0, 0, .inl 0), (133, .iconst 1, 1, 0, 0, 0, .inl (nI 1)), (134, .isub, 1, 0, 0, 0, .inl 0)])
  | 135 => (144, [(135, .iconst 1, 1, 0, 0, 0, .inl (nI 1)), (136, .aload_n 0, 1, 0, 0, 0, .inl 0), (137, .getfield 25, 3, 2, 2, 2, .inl 0), (140, .iload 4, 2, 4, 0, 0, .inl 0), (142, .iconst 1, 1, 0, 0, 0, .inl (nI 1)), (143, .isub, 1, 0, 0, 0, .inl 0)])
  | 144 => (146, [(144, .iaload, 1, 0, 0, 0, .inl 0), (145, .isub, 1, 0, 0, 0, .inl 0)])
  | 146 => (150, [(146, .iastore, 1, 0, 0, 0, .inl 0), (147, .goto 42, 3, 189, 0, 0, .inl 0)])
  | 150 => (167, [(150, .iload 4, 2, 4, 0, 0, .inl 0), (152, .iconst 1, 1, 0, 0, 0, .inl (nI 1)), (153, .if_icmp .le 36, 3, 189, 0, 0, .inl 0), (156, .iinc 4 (-1), 3, 4, 0, 0, .inl (-1)), (159, .aload_n 0, 1, 0, 0, 0, .inl 0), (160, .getfield 25, 3, 2, 2, 2, .inl 0), (163, .iload 4, 2, 4, 0, 0, .inl 0), (165, .iconst 1, 1, 0, 0, 0, .inl (nI 1)), (166, .isub, 1, 0, 0, 0, .inl 0)])
  | 167 => (177, [(167, .iload 6, 2, 6, 0, 0, .inl 0), (169, .aload_n 0, 1, 0, 0, 0, .inl 0), (170, .getfield 25, 3, 2, 2, 2, .inl 0), (173, .iload 4, 2, 4, 0, 0, .inl 0), (175, .iconst 1, 1, 0, 0, 0, .inl (nI 1)), (176, .isub, 1, 0, 0, 0, .inl 0)])
  | 177 => (185, [(177, .iaload, 1, 0, 0, 0, .inl 0), (178, .aload_n 0, 1, 0, 0, 0, .inl 0), (179, .getfield 25, 3, 2, 2, 2, .inl 0), (182, .iload 4, 2, 4, 0, 0, .inl 0), (184, .iaload, 1, 0, 0, 0, .inl 0)])
  | 185 => (189, [(185, .invokestatic 164, 3, 2014, 3, 0, .inl 0), (188, .iastore, 1, 0, 0, 0, .inl 0)])
  | 189 => (195, [(189, .iinc 5 1, 3, 5, 0, 0, .inl (nI 1)), (192, .goto (-144), 3, 48, 0, 0, .inl 0)])
  | 195 => (213, [(195, .iload 4, 2, 4, 0, 0, .inl 0), (197, .ifCond .le 16, 3, 213, 0, 0, .inl 0), (200, .aload_n 0, 1, 0, 0, 0, .inl 0), (201, .getfield 25, 3, 2, 2, 2, .inl 0), (204, .iconst 0, 1, 0, 0, 0, .inl (nI 0)), (205, .iaload, 1, 0, 0, 0, .inl 0), (206, .ifCond .eq 7, 3, 213, 0, 0, .inl 0), (209, .iconst 1, 1, 0, 0, 0, .inl (nI 1)), (210, .goto 4, 3, 214, 0, 0, .inl 0)])
  | 213 => (214, [(213, .iconst 0, 1, 0, 0, 0, .inl (nI 0))])
  | 214 => (215, [(214, .ireturn, 1, 0, 0, 0, .inl 0)])
  | n => (n, [])
theorem ckx_2013 : ∀ pc, px_cks pn_i2013 (bkx_2013 pc).1 pc (bkx_2013 pc).2 = true := by
  intro pc
  unfold bkx_2013
  split <;> first | decide +kernel | simp [px_cks]
noncomputable def f_2013_213 (tab : px_T) (σ : px_M) : Option (Int32 × px_M) := some (((nI 0), σ))
noncomputable def f_2013_189 (tab : px_T) (σ : px_M) (x0 : Nat) (x2 : Int32) (x3 : Int32) (x4 : Int32) (x5 : Int32) : Option ((Int32 × Int32 × px_M) ⊕ (Int32 × px_M)) := some (.inl ((x4, (x5 + (nI 1)), σ)))
noncomputable def f_2013_185 (tab : px_T) (σ : px_M) (x0 : Nat) (x2 : Int32) (x3 : Int32) (x4 : Int32) (x5 : Int32) (s0 : Option Nat) (s1 : Int32) (s2 : Int32) (s3 : Int32) (s4 : Int32) : Option ((Int32 × Int32 × px_M) ⊕ (Int32 × px_M)) := (f_2014 tab σ s2 s3 s4).bind fun r1 => s0.bind fun n2 => oA (px_lay tab n2) fun t3 l4 => gd (t3 = 0) (gd (vp_in s1 l4) (f_2013_189 tab ((px_wi σ n2 (s1).toNatClampNeg r1)) x0 x2 x3 x4 x5))
noncomputable def f_2013_177 (tab : px_T) (σ : px_M) (x0 : Nat) (x2 : Int32) (x3 : Int32) (x4 : Int32) (x5 : Int32) (s0 : Option Nat) (s1 : Int32) (s2 : Int32) (s3 : Option Nat) (s4 : Int32) : Option ((Int32 × Int32 × px_M) ⊕ (Int32 × px_M)) := s3.bind fun n1 => oA (px_lay tab n1) fun t2 l3 => gd (t2 = 0 ∨ t2 = 11) (gd (vp_in s4 l3) (gd (px_obj (px_lay tab x0) 2) ((((σ).2.2 x0 2)).bind fun n4 => oA (px_lay tab n4) fun t5 l6 => gd (t5 = 0 ∨ t5 = 11) (gd (vp_in x4 l6) (f_2013_185 tab σ x0 x2 x3 x4 x5 s0 s1 s2 ((px_av t2 σ n1 (s4).toNatClampNeg)) ((px_av t5 σ n4 (x4).toNatClampNeg)))))))
noncomputable def f_2013_167 (tab : px_T) (σ : px_M) (x0 : Nat) (x2 : Int32) (x3 : Int32) (x4 : Int32) (x5 : Int32) (x6 : Int32) (s0 : Option Nat) (s1 : Int32) : Option ((Int32 × Int32 × px_M) ⊕ (Int32 × px_M)) := gd (px_obj (px_lay tab x0) 2) (f_2013_177 tab σ x0 x2 x3 x4 x5 s0 s1 x6 (((σ).2.2 x0 2)) ((x4 - (nI 1))))
noncomputable def f_2013_146 (tab : px_T) (σ : px_M) (x0 : Nat) (x2 : Int32) (x3 : Int32) (x4 : Int32) (x5 : Int32) (s0 : Option Nat) (s1 : Int32) (s2 : Int32) : Option ((Int32 × Int32 × px_M) ⊕ (Int32 × px_M)) := s0.bind fun n1 => oA (px_lay tab n1) fun t2 l3 => gd (t2 = 0) (gd (vp_in s1 l3) (f_2013_189 tab ((px_wi σ n1 (s1).toNatClampNeg s2)) x0 x2 x3 x4 x5))
noncomputable def f_2013_144 (tab : px_T) (σ : px_M) (x0 : Nat) (x2 : Int32) (x3 : Int32) (x4 : Int32) (x5 : Int32) (s0 : Option Nat) (s1 : Int32) (s2 : Int32) (s3 : Option Nat) (s4 : Int32) : Option ((Int32 × Int32 × px_M) ⊕ (Int32 × px_M)) := s3.bind fun n1 => oA (px_lay tab n1) fun t2 l3 => gd (t2 = 0 ∨ t2 = 11) (gd (vp_in s4 l3) (f_2013_146 tab σ x0 x2 x3 x4 x5 s0 s1 ((s2 - (px_av t2 σ n1 (s4).toNatClampNeg)))))
noncomputable def f_2013_135 (tab : px_T) (σ : px_M) (x0 : Nat) (x2 : Int32) (x3 : Int32) (x4 : Int32) (x5 : Int32) (s0 : Option Nat) (s1 : Int32) : Option ((Int32 × Int32 × px_M) ⊕ (Int32 × px_M)) := gd (px_obj (px_lay tab x0) 2) (f_2013_144 tab σ x0 x2 x3 x4 x5 s0 s1 ((nI 1)) (((σ).2.2 x0 2)) ((x4 - (nI 1))))
noncomputable def f_2013_114 (tab : px_T) (σ : px_M) (x0 : Nat) (x2 : Int32) (x3 : Int32) (x4 : Int32) (x5 : Int32) (x6 : Int32) : Option ((Int32 × Int32 × px_M) ⊕ (Int32 × px_M)) := bn (x6 = (nI 2006)) (if x4 ≤ (nI 1) then (f_2013_189 tab σ x0 x2 x3 x4 x5) else (gd (px_obj (px_lay tab x0) 2) (f_2013_167 tab σ x0 x2 x3 ((x4 + (-1))) x5 x6 (((σ).2.2 x0 2)) (((x4 + (-1)) - (nI 1)))))) (if x4 ≤ nI 0 then (f_2013_189 tab σ x0 x2 x3 x4 x5) else (gd (px_obj (px_lay tab x0) 2) (f_2013_135 tab σ x0 x2 x3 x4 x5 (((σ).2.2 x0 2)) ((x4 - (nI 1))))))
noncomputable def f_2013_108 (tab : px_T) (σ : px_M) (x0 : Nat) (x2 : Int32) (x3 : Int32) (x4 : Int32) (x5 : Int32) : Option ((Int32 × Int32 × px_M) ⊕ (Int32 × px_M)) := f_2013_189 tab σ x0 x2 x3 ((x4 + (nI 1))) x5
noncomputable def f_2013_74 (tab : px_T) (σ : px_M) (x0 : Nat) (x2 : Int32) (x3 : Int32) (x4 : Int32) (x5 : Int32) (x6 : Int32) : Option ((Int32 × Int32 × px_M) ⊕ (Int32 × px_M)) := if (nI 64) ≤ x4 then (f_2013_189 tab σ x0 x2 x3 x4 x5) else (gd (px_obj (px_lay tab x0) 2) (if (nI 1000) ≤ x6 then ((f_2012 tab σ x0 x6 x2).bind fun r1 => (((σ).2.2 x0 2)).bind fun n2 => oA (px_lay tab n2) fun t3 l4 => gd (t3 = 0) (gd (vp_in x4 l4) (f_2013_108 tab ((px_wi σ n2 (x4).toNatClampNeg r1)) x0 x2 x3 x4 x5))) else ((((σ).2.2 x0 2)).bind fun n5 => oA (px_lay tab n5) fun t6 l7 => gd (t6 = 0) (gd (vp_in x4 l7) (f_2013_108 tab ((px_wi σ n5 (x4).toNatClampNeg x6)) x0 x2 x3 x4 x5)))))
noncomputable def F_2013_48 (tab : px_T) (x0 : Nat) (x2 : Int32) (x3 : Int32) (x4 : Int32) (x5 : Int32) (σ : px_M) : Option ((Int32 × Int32 × px_M) ⊕ (Int32 × px_M)) := if x3 ≤ x5 then (if x4 ≤ nI 0 then (Option.map Sum.inr (f_2013_213 tab σ)) else (gd (px_obj (px_lay tab x0) 2) ((((σ).2.2 x0 2)).bind fun n1 => oA (px_lay tab n1) fun t2 l3 => gd (t2 = 0 ∨ t2 = 11) (gd (vp_in (nI 0) l3) (if (px_av t2 σ n1 ((nI 0)).toNatClampNeg) = nI 0 then (Option.map Sum.inr (f_2013_213 tab σ)) else (some (.inr (((nI 1), σ))))))))) else (gd (px_obj (px_lay tab x0) 2) ((((σ).2.2 x0 5)).bind fun n4 => gd (px_obj (px_lay tab n4) 10) ((((σ).2.2 n4 3)).bind fun n5 => oA (px_lay tab n5) fun t6 l7 => gd (t6 = 0 ∨ t6 = 11) (gd (vp_in x5 l7) (if (nI 2000) ≤ (px_av t6 σ n5 (x5).toNatClampNeg) then (f_2013_114 tab σ x0 x2 x3 x4 x5 ((px_av t6 σ n5 (x5).toNatClampNeg))) else (f_2013_74 tab σ x0 x2 x3 x4 x5 ((px_av t6 σ n5 (x5).toNatClampNeg))))))))
noncomputable def f_2013_48 (tab : px_T) (x0 : Nat) (x2 : Int32) (x3 : Int32) (x4 : Int32) (x5 : Int32) (σ : px_M) : Option (Int32 × px_M) := lpO (fun s : Int32 × Int32 × px_M => F_2013_48 tab x0 x2 x3 s.1 s.2.1 s.2.2) (x4, x5, σ)
theorem f_2013_48_eq (tab : px_T) (x0 : Nat) (x2 : Int32) (x3 : Int32) (x4 : Int32) (x5 : Int32) (σ : px_M) : f_2013_48 tab x0 x2 x3 x4 x5 σ = (F_2013_48 tab x0 x2 x3 x4 x5 σ).bind (Sum.elim (fun s => f_2013_48 tab x0 x2 x3 s.1 s.2.1 s.2.2) some) := lpO_eq _ _
noncomputable def f_2013_30 (tab : px_T) (σ : px_M) (x0 : Nat) (x1 : Int32) (x2 : Int32) (x3 : Int32) : Option (Int32 × px_M) := gd (px_obj (px_lay tab x0) 2) ((((σ).2.2 x0 5)).bind fun n1 => gd (px_obj (px_lay tab n1) 10) ((((σ).2.2 n1 1)).bind fun n2 => oA (px_lay tab n2) fun t3 l4 => gd (t3 = 0 ∨ t3 = 11) (gd (vp_in x1 l4) (f_2013_48 tab x0 x2 x3 ((nI 0)) ((if (px_av t3 σ n2 (x1).toNatClampNeg) < (nI 0) then (nI 0) else (px_av t3 σ n2 (x1).toNatClampNeg))) σ))))
noncomputable def f_2013_10 (tab : px_T) (σ : px_M) : Option (Int32 × px_M) := some (((nI 0), σ))
noncomputable def f_2013 (tab : px_T) (σ : px_M) (x0 : Nat) (x1 : Int32) (x2 : Int32) : Option (Int32 × px_M) := if x1 < nI 0 then (f_2013_10 tab σ) else (if x1 < (nI 6) then (gd (px_obj (px_lay tab x0) 2) ((((σ).2.2 x0 5)).bind fun n1 => gd (px_obj (px_lay tab n1) 10) ((((σ).2.2 n1 1)).bind fun n2 => oA (px_lay tab n2) fun t3 l4 => gd (t3 = 0 ∨ t3 = 11) (gd (vp_in (x1 + (nI 1)) l4) (f_2013_30 tab σ x0 x1 x2 ((if (nI 900) < (px_av t3 σ n2 ((x1 + (nI 1))).toNatClampNeg) then (nI 900) else (px_av t3 σ n2 ((x1 + (nI 1))).toNatClampNeg)))))))) else (f_2013_10 tab σ))
def kp_2013_213 (Q : px_M → Prop) : px_P := fun ls st τ => st = [] ∧ kZ ls (fun ls => kZ ls (fun ls => kZ ls (fun ls => kZ ls (fun ls => kZ ls (fun ls => kZ ls (fun ls => kZ ls (fun ls => kE ls (Q τ))))))))
theorem kq_2013_213 {C : px_C} {k : Option px_V → px_M → Prop} {Q : px_M → Prop} (H : ∀ (τ : px_M), Q τ → ∀ (z0 : Option px_V) (z1 : Option px_V) (z2 : Option px_V) (z3 : Option px_V) (z4 : Option px_V) (z5 : Option px_V) (z6 : Option px_V), px_W C k 213 [z0, z1, z2, z3, z4, z5, z6] [] τ) : ∀ ls st τ, kp_2013_213 Q ls st τ → px_W C k 213 ls st τ := by
  intro ls st τ hz
  obtain ⟨ez, h0⟩ := hz
  obtain ⟨z0, l0, e0, h1⟩ := kZ_sp h0
  obtain ⟨z1, l1, e1, h2⟩ := kZ_sp h1
  obtain ⟨z2, l2, e2, h3⟩ := kZ_sp h2
  obtain ⟨z3, l3, e3, h4⟩ := kZ_sp h3
  obtain ⟨z4, l4, e4, h5⟩ := kZ_sp h4
  obtain ⟨z5, l5, e5, h6⟩ := kZ_sp h5
  obtain ⟨z6, l6, e6, h7⟩ := kZ_sp h6
  obtain ⟨ey, hy⟩ := kE_sp h7
  subst ez
  subst ey
  subst e6
  subst e5
  subst e4
  subst e3
  subst e2
  subst e1
  subst e0
  exact H τ hy z0 z1 z2 z3 z4 z5 z6
def kp_2013_189 (Q : Nat → Int32 → Int32 → Int32 → Int32 → px_M → Prop) : px_P := fun ls st τ => st = [] ∧ kN ls (fun x0 ls => kZ ls (fun ls => kI ls (fun x2 ls => kI ls (fun x3 ls => kI ls (fun x4 ls => kI ls (fun x5 ls => kZ ls (fun ls => kE ls (Q x0 x2 x3 x4 x5 τ))))))))
theorem kq_2013_189 {C : px_C} {k : Option px_V → px_M → Prop} {Q : Nat → Int32 → Int32 → Int32 → Int32 → px_M → Prop} (H : ∀ (x0 : Nat) (x2 : Int32) (x3 : Int32) (x4 : Int32) (x5 : Int32) (τ : px_M), Q x0 x2 x3 x4 x5 τ → ∀ (z1 : Option px_V) (z6 : Option px_V), px_W C k 189 [some (.inr (.inr (some x0))), z1, some (.inl x2), some (.inl x3), some (.inl x4), some (.inl x5), z6] [] τ) : ∀ ls st τ, kp_2013_189 Q ls st τ → px_W C k 189 ls st τ := by
  intro ls st τ hz
  obtain ⟨ez, h0⟩ := hz
  obtain ⟨x0, l0, e0, h1⟩ := kN_sp h0
  obtain ⟨z1, l1, e1, h2⟩ := kZ_sp h1
  obtain ⟨x2, l2, e2, h3⟩ := kI_sp h2
  obtain ⟨x3, l3, e3, h4⟩ := kI_sp h3
  obtain ⟨x4, l4, e4, h5⟩ := kI_sp h4
  obtain ⟨x5, l5, e5, h6⟩ := kI_sp h5
  obtain ⟨z6, l6, e6, h7⟩ := kZ_sp h6
  obtain ⟨ey, hy⟩ := kE_sp h7
  subst ez
  subst ey
  subst e6
  subst e5
  subst e4
  subst e3
  subst e2
  subst e1
  subst e0
  exact H x0 x2 x3 x4 x5 τ hy z1 z6
def kp_2013_185 (Q : Nat → Int32 → Int32 → Int32 → Int32 → px_M → Option Nat → Int32 → Int32 → Int32 → Int32 → Prop) : px_P := fun ls st τ => px_i1 st (fun s4 st => px_i1 st (fun s3 st => px_i1 st (fun s2 st => px_i1 st (fun s1 st => px_q1 st (fun s0 st => st = [] ∧ kN ls (fun x0 ls => kZ ls (fun ls => kI ls (fun x2 ls => kI ls (fun x3 ls => kI ls (fun x4 ls => kI ls (fun x5 ls => kZ ls (fun ls => kE ls (Q x0 x2 x3 x4 x5 τ s0 s1 s2 s3 s4)))))))))))))
theorem kq_2013_185 {C : px_C} {k : Option px_V → px_M → Prop} {Q : Nat → Int32 → Int32 → Int32 → Int32 → px_M → Option Nat → Int32 → Int32 → Int32 → Int32 → Prop} (H : ∀ (x0 : Nat) (x2 : Int32) (x3 : Int32) (x4 : Int32) (x5 : Int32) (τ : px_M) (s0 : Option Nat) (s1 : Int32) (s2 : Int32) (s3 : Int32) (s4 : Int32), Q x0 x2 x3 x4 x5 τ s0 s1 s2 s3 s4 → ∀ (z1 : Option px_V) (z6 : Option px_V), px_W C k 185 [some (.inr (.inr (some x0))), z1, some (.inl x2), some (.inl x3), some (.inl x4), some (.inl x5), z6] [.inl s4, .inl s3, .inl s2, .inl s1, .inr (.inr s0)] τ) : ∀ ls st τ, kp_2013_185 Q ls st τ → px_W C k 185 ls st τ := by
  intro ls st τ hz
  obtain ⟨s4, t4, f4, g4⟩ := px_i1_spec hz
  obtain ⟨s3, t3, f3, g3⟩ := px_i1_spec g4
  obtain ⟨s2, t2, f2, g2⟩ := px_i1_spec g3
  obtain ⟨s1, t1, f1, g1⟩ := px_i1_spec g2
  obtain ⟨s0, t0, f0, g0⟩ := px_q1_spec g1
  obtain ⟨ez, h0⟩ := g0
  obtain ⟨x0, l0, e0, h1⟩ := kN_sp h0
  obtain ⟨z1, l1, e1, h2⟩ := kZ_sp h1
  obtain ⟨x2, l2, e2, h3⟩ := kI_sp h2
  obtain ⟨x3, l3, e3, h4⟩ := kI_sp h3
  obtain ⟨x4, l4, e4, h5⟩ := kI_sp h4
  obtain ⟨x5, l5, e5, h6⟩ := kI_sp h5
  obtain ⟨z6, l6, e6, h7⟩ := kZ_sp h6
  obtain ⟨ey, hy⟩ := kE_sp h7
  subst ez
  subst f0
  subst f1
  subst f2
  subst f3
  subst f4
  subst ey
  subst e6
  subst e5
  subst e4
  subst e3
  subst e2
  subst e1
  subst e0
  exact H x0 x2 x3 x4 x5 τ s0 s1 s2 s3 s4 hy z1 z6
def kp_2013_177 (Q : Nat → Int32 → Int32 → Int32 → Int32 → px_M → Option Nat → Int32 → Int32 → Option Nat → Int32 → Prop) : px_P := fun ls st τ => px_i1 st (fun s4 st => px_q1 st (fun s3 st => px_i1 st (fun s2 st => px_i1 st (fun s1 st => px_q1 st (fun s0 st => st = [] ∧ kN ls (fun x0 ls => kZ ls (fun ls => kI ls (fun x2 ls => kI ls (fun x3 ls => kI ls (fun x4 ls => kI ls (fun x5 ls => kZ ls (fun ls => kE ls (Q x0 x2 x3 x4 x5 τ s0 s1 s2 s3 s4)))))))))))))
theorem kq_2013_177 {C : px_C} {k : Option px_V → px_M → Prop} {Q : Nat → Int32 → Int32 → Int32 → Int32 → px_M → Option Nat → Int32 → Int32 → Option Nat → Int32 → Prop} (H : ∀ (x0 : Nat) (x2 : Int32) (x3 : Int32) (x4 : Int32) (x5 : Int32) (τ : px_M) (s0 : Option Nat) (s1 : Int32) (s2 : Int32) (s3 : Option Nat) (s4 : Int32), Q x0 x2 x3 x4 x5 τ s0 s1 s2 s3 s4 → ∀ (z1 : Option px_V) (z6 : Option px_V), px_W C k 177 [some (.inr (.inr (some x0))), z1, some (.inl x2), some (.inl x3), some (.inl x4), some (.inl x5), z6] [.inl s4, .inr (.inr s3), .inl s2, .inl s1, .inr (.inr s0)] τ) : ∀ ls st τ, kp_2013_177 Q ls st τ → px_W C k 177 ls st τ := by
  intro ls st τ hz
  obtain ⟨s4, t4, f4, g4⟩ := px_i1_spec hz
  obtain ⟨s3, t3, f3, g3⟩ := px_q1_spec g4
  obtain ⟨s2, t2, f2, g2⟩ := px_i1_spec g3
  obtain ⟨s1, t1, f1, g1⟩ := px_i1_spec g2
  obtain ⟨s0, t0, f0, g0⟩ := px_q1_spec g1
  obtain ⟨ez, h0⟩ := g0
  obtain ⟨x0, l0, e0, h1⟩ := kN_sp h0
  obtain ⟨z1, l1, e1, h2⟩ := kZ_sp h1
  obtain ⟨x2, l2, e2, h3⟩ := kI_sp h2
  obtain ⟨x3, l3, e3, h4⟩ := kI_sp h3
  obtain ⟨x4, l4, e4, h5⟩ := kI_sp h4
  obtain ⟨x5, l5, e5, h6⟩ := kI_sp h5
  obtain ⟨z6, l6, e6, h7⟩ := kZ_sp h6
  obtain ⟨ey, hy⟩ := kE_sp h7
  subst ez
  subst f0
  subst f1
  subst f2
  subst f3
  subst f4
  subst ey
  subst e6
  subst e5
  subst e4
  subst e3
  subst e2
  subst e1
  subst e0
  exact H x0 x2 x3 x4 x5 τ s0 s1 s2 s3 s4 hy z1 z6
def kp_2013_167 (Q : Nat → Int32 → Int32 → Int32 → Int32 → Int32 → px_M → Option Nat → Int32 → Prop) : px_P := fun ls st τ => px_i1 st (fun s1 st => px_q1 st (fun s0 st => st = [] ∧ kN ls (fun x0 ls => kZ ls (fun ls => kI ls (fun x2 ls => kI ls (fun x3 ls => kI ls (fun x4 ls => kI ls (fun x5 ls => kI ls (fun x6 ls => kE ls (Q x0 x2 x3 x4 x5 x6 τ s0 s1))))))))))
theorem kq_2013_167 {C : px_C} {k : Option px_V → px_M → Prop} {Q : Nat → Int32 → Int32 → Int32 → Int32 → Int32 → px_M → Option Nat → Int32 → Prop} (H : ∀ (x0 : Nat) (x2 : Int32) (x3 : Int32) (x4 : Int32) (x5 : Int32) (x6 : Int32) (τ : px_M) (s0 : Option Nat) (s1 : Int32), Q x0 x2 x3 x4 x5 x6 τ s0 s1 → ∀ (z1 : Option px_V), px_W C k 167 [some (.inr (.inr (some x0))), z1, some (.inl x2), some (.inl x3), some (.inl x4), some (.inl x5), some (.inl x6)] [.inl s1, .inr (.inr s0)] τ) : ∀ ls st τ, kp_2013_167 Q ls st τ → px_W C k 167 ls st τ := by
  intro ls st τ hz
  obtain ⟨s1, t1, f1, g1⟩ := px_i1_spec hz
  obtain ⟨s0, t0, f0, g0⟩ := px_q1_spec g1
  obtain ⟨ez, h0⟩ := g0
  obtain ⟨x0, l0, e0, h1⟩ := kN_sp h0
  obtain ⟨z1, l1, e1, h2⟩ := kZ_sp h1
  obtain ⟨x2, l2, e2, h3⟩ := kI_sp h2
  obtain ⟨x3, l3, e3, h4⟩ := kI_sp h3
  obtain ⟨x4, l4, e4, h5⟩ := kI_sp h4
  obtain ⟨x5, l5, e5, h6⟩ := kI_sp h5
  obtain ⟨x6, l6, e6, h7⟩ := kI_sp h6
  obtain ⟨ey, hy⟩ := kE_sp h7
  subst ez
  subst f0
  subst f1
  subst ey
  subst e6
  subst e5
  subst e4
  subst e3
  subst e2
  subst e1
  subst e0
  exact H x0 x2 x3 x4 x5 x6 τ s0 s1 hy z1
def kp_2013_146 (Q : Nat → Int32 → Int32 → Int32 → Int32 → px_M → Option Nat → Int32 → Int32 → Prop) : px_P := fun ls st τ => px_i1 st (fun s2 st => px_i1 st (fun s1 st => px_q1 st (fun s0 st => st = [] ∧ kN ls (fun x0 ls => kZ ls (fun ls => kI ls (fun x2 ls => kI ls (fun x3 ls => kI ls (fun x4 ls => kI ls (fun x5 ls => kZ ls (fun ls => kE ls (Q x0 x2 x3 x4 x5 τ s0 s1 s2)))))))))))
theorem kq_2013_146 {C : px_C} {k : Option px_V → px_M → Prop} {Q : Nat → Int32 → Int32 → Int32 → Int32 → px_M → Option Nat → Int32 → Int32 → Prop} (H : ∀ (x0 : Nat) (x2 : Int32) (x3 : Int32) (x4 : Int32) (x5 : Int32) (τ : px_M) (s0 : Option Nat) (s1 : Int32) (s2 : Int32), Q x0 x2 x3 x4 x5 τ s0 s1 s2 → ∀ (z1 : Option px_V) (z6 : Option px_V), px_W C k 146 [some (.inr (.inr (some x0))), z1, some (.inl x2), some (.inl x3), some (.inl x4), some (.inl x5), z6] [.inl s2, .inl s1, .inr (.inr s0)] τ) : ∀ ls st τ, kp_2013_146 Q ls st τ → px_W C k 146 ls st τ := by
  intro ls st τ hz
  obtain ⟨s2, t2, f2, g2⟩ := px_i1_spec hz
  obtain ⟨s1, t1, f1, g1⟩ := px_i1_spec g2
  obtain ⟨s0, t0, f0, g0⟩ := px_q1_spec g1
  obtain ⟨ez, h0⟩ := g0
  obtain ⟨x0, l0, e0, h1⟩ := kN_sp h0
  obtain ⟨z1, l1, e1, h2⟩ := kZ_sp h1
  obtain ⟨x2, l2, e2, h3⟩ := kI_sp h2
  obtain ⟨x3, l3, e3, h4⟩ := kI_sp h3
  obtain ⟨x4, l4, e4, h5⟩ := kI_sp h4
  obtain ⟨x5, l5, e5, h6⟩ := kI_sp h5
  obtain ⟨z6, l6, e6, h7⟩ := kZ_sp h6
  obtain ⟨ey, hy⟩ := kE_sp h7
  subst ez
  subst f0
  subst f1
  subst f2
  subst ey
  subst e6
  subst e5
  subst e4
  subst e3
  subst e2
  subst e1
  subst e0
  exact H x0 x2 x3 x4 x5 τ s0 s1 s2 hy z1 z6
def kp_2013_144 (Q : Nat → Int32 → Int32 → Int32 → Int32 → px_M → Option Nat → Int32 → Int32 → Option Nat → Int32 → Prop) : px_P := fun ls st τ => px_i1 st (fun s4 st => px_q1 st (fun s3 st => px_i1 st (fun s2 st => px_i1 st (fun s1 st => px_q1 st (fun s0 st => st = [] ∧ kN ls (fun x0 ls => kZ ls (fun ls => kI ls (fun x2 ls => kI ls (fun x3 ls => kI ls (fun x4 ls => kI ls (fun x5 ls => kZ ls (fun ls => kE ls (Q x0 x2 x3 x4 x5 τ s0 s1 s2 s3 s4)))))))))))))
theorem kq_2013_144 {C : px_C} {k : Option px_V → px_M → Prop} {Q : Nat → Int32 → Int32 → Int32 → Int32 → px_M → Option Nat → Int32 → Int32 → Option Nat → Int32 → Prop} (H : ∀ (x0 : Nat) (x2 : Int32) (x3 : Int32) (x4 : Int32) (x5 : Int32) (τ : px_M) (s0 : Option Nat) (s1 : Int32) (s2 : Int32) (s3 : Option Nat) (s4 : Int32), Q x0 x2 x3 x4 x5 τ s0 s1 s2 s3 s4 → ∀ (z1 : Option px_V) (z6 : Option px_V), px_W C k 144 [some (.inr (.inr (some x0))), z1, some (.inl x2), some (.inl x3), some (.inl x4), some (.inl x5), z6] [.inl s4, .inr (.inr s3), .inl s2, .inl s1, .inr (.inr s0)] τ) : ∀ ls st τ, kp_2013_144 Q ls st τ → px_W C k 144 ls st τ := by
  intro ls st τ hz
  obtain ⟨s4, t4, f4, g4⟩ := px_i1_spec hz
  obtain ⟨s3, t3, f3, g3⟩ := px_q1_spec g4
  obtain ⟨s2, t2, f2, g2⟩ := px_i1_spec g3
  obtain ⟨s1, t1, f1, g1⟩ := px_i1_spec g2
  obtain ⟨s0, t0, f0, g0⟩ := px_q1_spec g1
  obtain ⟨ez, h0⟩ := g0
  obtain ⟨x0, l0, e0, h1⟩ := kN_sp h0
  obtain ⟨z1, l1, e1, h2⟩ := kZ_sp h1
  obtain ⟨x2, l2, e2, h3⟩ := kI_sp h2
  obtain ⟨x3, l3, e3, h4⟩ := kI_sp h3
  obtain ⟨x4, l4, e4, h5⟩ := kI_sp h4
  obtain ⟨x5, l5, e5, h6⟩ := kI_sp h5
  obtain ⟨z6, l6, e6, h7⟩ := kZ_sp h6
  obtain ⟨ey, hy⟩ := kE_sp h7
  subst ez
  subst f0
  subst f1
  subst f2
  subst f3
  subst f4
  subst ey
  subst e6
  subst e5
  subst e4
  subst e3
  subst e2
  subst e1
  subst e0
  exact H x0 x2 x3 x4 x5 τ s0 s1 s2 s3 s4 hy z1 z6
def kp_2013_135 (Q : Nat → Int32 → Int32 → Int32 → Int32 → px_M → Option Nat → Int32 → Prop) : px_P := fun ls st τ => px_i1 st (fun s1 st => px_q1 st (fun s0 st => st = [] ∧ kN ls (fun x0 ls => kZ ls (fun ls => kI ls (fun x2 ls => kI ls (fun x3 ls => kI ls (fun x4 ls => kI ls (fun x5 ls => kZ ls (fun ls => kE ls (Q x0 x2 x3 x4 x5 τ s0 s1))))))))))
theorem kq_2013_135 {C : px_C} {k : Option px_V → px_M → Prop} {Q : Nat → Int32 → Int32 → Int32 → Int32 → px_M → Option Nat → Int32 → Prop} (H : ∀ (x0 : Nat) (x2 : Int32) (x3 : Int32) (x4 : Int32) (x5 : Int32) (τ : px_M) (s0 : Option Nat) (s1 : Int32), Q x0 x2 x3 x4 x5 τ s0 s1 → ∀ (z1 : Option px_V) (z6 : Option px_V), px_W C k 135 [some (.inr (.inr (some x0))), z1, some (.inl x2), some (.inl x3), some (.inl x4), some (.inl x5), z6] [.inl s1, .inr (.inr s0)] τ) : ∀ ls st τ, kp_2013_135 Q ls st τ → px_W C k 135 ls st τ := by
  intro ls st τ hz
  obtain ⟨s1, t1, f1, g1⟩ := px_i1_spec hz
  obtain ⟨s0, t0, f0, g0⟩ := px_q1_spec g1
  obtain ⟨ez, h0⟩ := g0
  obtain ⟨x0, l0, e0, h1⟩ := kN_sp h0
  obtain ⟨z1, l1, e1, h2⟩ := kZ_sp h1
  obtain ⟨x2, l2, e2, h3⟩ := kI_sp h2
  obtain ⟨x3, l3, e3, h4⟩ := kI_sp h3
  obtain ⟨x4, l4, e4, h5⟩ := kI_sp h4
  obtain ⟨x5, l5, e5, h6⟩ := kI_sp h5
  obtain ⟨z6, l6, e6, h7⟩ := kZ_sp h6
  obtain ⟨ey, hy⟩ := kE_sp h7
  subst ez
  subst f0
  subst f1
  subst ey
  subst e6
  subst e5
  subst e4
  subst e3
  subst e2
  subst e1
  subst e0
  exact H x0 x2 x3 x4 x5 τ s0 s1 hy z1 z6
def kp_2013_114 (Q : Nat → Int32 → Int32 → Int32 → Int32 → Int32 → px_M → Prop) : px_P := fun ls st τ => st = [] ∧ kN ls (fun x0 ls => kZ ls (fun ls => kI ls (fun x2 ls => kI ls (fun x3 ls => kI ls (fun x4 ls => kI ls (fun x5 ls => kI ls (fun x6 ls => kE ls (Q x0 x2 x3 x4 x5 x6 τ))))))))
theorem kq_2013_114 {C : px_C} {k : Option px_V → px_M → Prop} {Q : Nat → Int32 → Int32 → Int32 → Int32 → Int32 → px_M → Prop} (H : ∀ (x0 : Nat) (x2 : Int32) (x3 : Int32) (x4 : Int32) (x5 : Int32) (x6 : Int32) (τ : px_M), Q x0 x2 x3 x4 x5 x6 τ → ∀ (z1 : Option px_V), px_W C k 114 [some (.inr (.inr (some x0))), z1, some (.inl x2), some (.inl x3), some (.inl x4), some (.inl x5), some (.inl x6)] [] τ) : ∀ ls st τ, kp_2013_114 Q ls st τ → px_W C k 114 ls st τ := by
  intro ls st τ hz
  obtain ⟨ez, h0⟩ := hz
  obtain ⟨x0, l0, e0, h1⟩ := kN_sp h0
  obtain ⟨z1, l1, e1, h2⟩ := kZ_sp h1
  obtain ⟨x2, l2, e2, h3⟩ := kI_sp h2
  obtain ⟨x3, l3, e3, h4⟩ := kI_sp h3
  obtain ⟨x4, l4, e4, h5⟩ := kI_sp h4
  obtain ⟨x5, l5, e5, h6⟩ := kI_sp h5
  obtain ⟨x6, l6, e6, h7⟩ := kI_sp h6
  obtain ⟨ey, hy⟩ := kE_sp h7
  subst ez
  subst ey
  subst e6
  subst e5
  subst e4
  subst e3
  subst e2
  subst e1
  subst e0
  exact H x0 x2 x3 x4 x5 x6 τ hy z1
def kp_2013_108 (Q : Nat → Int32 → Int32 → Int32 → Int32 → px_M → Prop) : px_P := fun ls st τ => st = [] ∧ kN ls (fun x0 ls => kZ ls (fun ls => kI ls (fun x2 ls => kI ls (fun x3 ls => kI ls (fun x4 ls => kI ls (fun x5 ls => kZ ls (fun ls => kE ls (Q x0 x2 x3 x4 x5 τ))))))))
theorem kq_2013_108 {C : px_C} {k : Option px_V → px_M → Prop} {Q : Nat → Int32 → Int32 → Int32 → Int32 → px_M → Prop} (H : ∀ (x0 : Nat) (x2 : Int32) (x3 : Int32) (x4 : Int32) (x5 : Int32) (τ : px_M), Q x0 x2 x3 x4 x5 τ → ∀ (z1 : Option px_V) (z6 : Option px_V), px_W C k 108 [some (.inr (.inr (some x0))), z1, some (.inl x2), some (.inl x3), some (.inl x4), some (.inl x5), z6] [] τ) : ∀ ls st τ, kp_2013_108 Q ls st τ → px_W C k 108 ls st τ := by
  intro ls st τ hz
  obtain ⟨ez, h0⟩ := hz
  obtain ⟨x0, l0, e0, h1⟩ := kN_sp h0
  obtain ⟨z1, l1, e1, h2⟩ := kZ_sp h1
  obtain ⟨x2, l2, e2, h3⟩ := kI_sp h2
  obtain ⟨x3, l3, e3, h4⟩ := kI_sp h3
  obtain ⟨x4, l4, e4, h5⟩ := kI_sp h4
  obtain ⟨x5, l5, e5, h6⟩ := kI_sp h5
  obtain ⟨z6, l6, e6, h7⟩ := kZ_sp h6
  obtain ⟨ey, hy⟩ := kE_sp h7
  subst ez
  subst ey
  subst e6
  subst e5
  subst e4
  subst e3
  subst e2
  subst e1
  subst e0
  exact H x0 x2 x3 x4 x5 τ hy z1 z6
def kp_2013_74 (Q : Nat → Int32 → Int32 → Int32 → Int32 → Int32 → px_M → Prop) : px_P := fun ls st τ => st = [] ∧ kN ls (fun x0 ls => kZ ls (fun ls => kI ls (fun x2 ls => kI ls (fun x3 ls => kI ls (fun x4 ls => kI ls (fun x5 ls => kI ls (fun x6 ls => kE ls (Q x0 x2 x3 x4 x5 x6 τ))))))))
theorem kq_2013_74 {C : px_C} {k : Option px_V → px_M → Prop} {Q : Nat → Int32 → Int32 → Int32 → Int32 → Int32 → px_M → Prop} (H : ∀ (x0 : Nat) (x2 : Int32) (x3 : Int32) (x4 : Int32) (x5 : Int32) (x6 : Int32) (τ : px_M), Q x0 x2 x3 x4 x5 x6 τ → ∀ (z1 : Option px_V), px_W C k 74 [some (.inr (.inr (some x0))), z1, some (.inl x2), some (.inl x3), some (.inl x4), some (.inl x5), some (.inl x6)] [] τ) : ∀ ls st τ, kp_2013_74 Q ls st τ → px_W C k 74 ls st τ := by
  intro ls st τ hz
  obtain ⟨ez, h0⟩ := hz
  obtain ⟨x0, l0, e0, h1⟩ := kN_sp h0
  obtain ⟨z1, l1, e1, h2⟩ := kZ_sp h1
  obtain ⟨x2, l2, e2, h3⟩ := kI_sp h2
  obtain ⟨x3, l3, e3, h4⟩ := kI_sp h3
  obtain ⟨x4, l4, e4, h5⟩ := kI_sp h4
  obtain ⟨x5, l5, e5, h6⟩ := kI_sp h5
  obtain ⟨x6, l6, e6, h7⟩ := kI_sp h6
  obtain ⟨ey, hy⟩ := kE_sp h7
  subst ez
  subst ey
  subst e6
  subst e5
  subst e4
  subst e3
  subst e2
  subst e1
  subst e0
  exact H x0 x2 x3 x4 x5 x6 τ hy z1
def kp_2013_48 (Q : Nat → Int32 → Int32 → Int32 → Int32 → px_M → Prop) : px_P := fun ls st τ => st = [] ∧ kN ls (fun x0 ls => kZ ls (fun ls => kI ls (fun x2 ls => kI ls (fun x3 ls => kI ls (fun x4 ls => kI ls (fun x5 ls => kZ ls (fun ls => kE ls (Q x0 x2 x3 x4 x5 τ))))))))
theorem kq_2013_48 {C : px_C} {k : Option px_V → px_M → Prop} {Q : Nat → Int32 → Int32 → Int32 → Int32 → px_M → Prop} (H : ∀ (x0 : Nat) (x2 : Int32) (x3 : Int32) (x4 : Int32) (x5 : Int32) (τ : px_M), Q x0 x2 x3 x4 x5 τ → ∀ (z1 : Option px_V) (z6 : Option px_V), px_W C k 48 [some (.inr (.inr (some x0))), z1, some (.inl x2), some (.inl x3), some (.inl x4), some (.inl x5), z6] [] τ) : ∀ ls st τ, kp_2013_48 Q ls st τ → px_W C k 48 ls st τ := by
  intro ls st τ hz
  obtain ⟨ez, h0⟩ := hz
  obtain ⟨x0, l0, e0, h1⟩ := kN_sp h0
  obtain ⟨z1, l1, e1, h2⟩ := kZ_sp h1
  obtain ⟨x2, l2, e2, h3⟩ := kI_sp h2
  obtain ⟨x3, l3, e3, h4⟩ := kI_sp h3
  obtain ⟨x4, l4, e4, h5⟩ := kI_sp h4
  obtain ⟨x5, l5, e5, h6⟩ := kI_sp h5
  obtain ⟨z6, l6, e6, h7⟩ := kZ_sp h6
  obtain ⟨ey, hy⟩ := kE_sp h7
  subst ez
  subst ey
  subst e6
  subst e5
  subst e4
  subst e3
  subst e2
  subst e1
  subst e0
  exact H x0 x2 x3 x4 x5 τ hy z1 z6
def kp_2013_30 (Q : Nat → Int32 → Int32 → Int32 → px_M → Prop) : px_P := fun ls st τ => st = [] ∧ kN ls (fun x0 ls => kI ls (fun x1 ls => kI ls (fun x2 ls => kI ls (fun x3 ls => kZ ls (fun ls => kZ ls (fun ls => kZ ls (fun ls => kE ls (Q x0 x1 x2 x3 τ))))))))
theorem kq_2013_30 {C : px_C} {k : Option px_V → px_M → Prop} {Q : Nat → Int32 → Int32 → Int32 → px_M → Prop} (H : ∀ (x0 : Nat) (x1 : Int32) (x2 : Int32) (x3 : Int32) (τ : px_M), Q x0 x1 x2 x3 τ → ∀ (z4 : Option px_V) (z5 : Option px_V) (z6 : Option px_V), px_W C k 30 [some (.inr (.inr (some x0))), some (.inl x1), some (.inl x2), some (.inl x3), z4, z5, z6] [] τ) : ∀ ls st τ, kp_2013_30 Q ls st τ → px_W C k 30 ls st τ := by
  intro ls st τ hz
  obtain ⟨ez, h0⟩ := hz
  obtain ⟨x0, l0, e0, h1⟩ := kN_sp h0
  obtain ⟨x1, l1, e1, h2⟩ := kI_sp h1
  obtain ⟨x2, l2, e2, h3⟩ := kI_sp h2
  obtain ⟨x3, l3, e3, h4⟩ := kI_sp h3
  obtain ⟨z4, l4, e4, h5⟩ := kZ_sp h4
  obtain ⟨z5, l5, e5, h6⟩ := kZ_sp h5
  obtain ⟨z6, l6, e6, h7⟩ := kZ_sp h6
  obtain ⟨ey, hy⟩ := kE_sp h7
  subst ez
  subst ey
  subst e6
  subst e5
  subst e4
  subst e3
  subst e2
  subst e1
  subst e0
  exact H x0 x1 x2 x3 τ hy z4 z5 z6
def kp_2013_10 (Q : px_M → Prop) : px_P := fun ls st τ => st = [] ∧ kZ ls (fun ls => kZ ls (fun ls => kZ ls (fun ls => kZ ls (fun ls => kZ ls (fun ls => kZ ls (fun ls => kZ ls (fun ls => kE ls (Q τ))))))))
theorem kq_2013_10 {C : px_C} {k : Option px_V → px_M → Prop} {Q : px_M → Prop} (H : ∀ (τ : px_M), Q τ → ∀ (z0 : Option px_V) (z1 : Option px_V) (z2 : Option px_V) (z3 : Option px_V) (z4 : Option px_V) (z5 : Option px_V) (z6 : Option px_V), px_W C k 10 [z0, z1, z2, z3, z4, z5, z6] [] τ) : ∀ ls st τ, kp_2013_10 Q ls st τ → px_W C k 10 ls st τ := by
  intro ls st τ hz
  obtain ⟨ez, h0⟩ := hz
  obtain ⟨z0, l0, e0, h1⟩ := kZ_sp h0
  obtain ⟨z1, l1, e1, h2⟩ := kZ_sp h1
  obtain ⟨z2, l2, e2, h3⟩ := kZ_sp h2
  obtain ⟨z3, l3, e3, h4⟩ := kZ_sp h3
  obtain ⟨z4, l4, e4, h5⟩ := kZ_sp h4
  obtain ⟨z5, l5, e5, h6⟩ := kZ_sp h5
  obtain ⟨z6, l6, e6, h7⟩ := kZ_sp h6
  obtain ⟨ey, hy⟩ := kE_sp h7
  subst ez
  subst ey
  subst e6
  subst e5
  subst e4
  subst e3
  subst e2
  subst e1
  subst e0
  exact H τ hy z0 z1 z2 z3 z4 z5 z6
set_option maxHeartbeats 4000000 in
set_option maxRecDepth 100000 in
theorem rl_2013_213 {C : px_C} (hn : px_nd (px_tb C)) {h : Nat} (hh : 3 ≤ h) (hC : px_ok C pn_i2013 h) {k : Option px_V → px_M → Prop} {σ : px_M} (hs : oW (f_2013_213 (px_tb C) σ) (fun q => k (some (.inl q.1)) q.2)) : ∀ (z0 : Option px_V) (z1 : Option px_V) (z2 : Option px_V) (z3 : Option px_V) (z4 : Option px_V) (z5 : Option px_V) (z6 : Option px_V), px_W C k 213 [z0, z1, z2, z3, z4, z5, z6] [] σ := by
  intro z0 z1 z2 z3 z4 z5 z6
  refine px_runH (h - 1) ckx_2013 [] [] 80 7 (some .boolean) rfl rfl hC px_nosp (by omega) px_nocut (fun G Jf hG hJf => ?_)
  unfold f_2013_213 at hs
  simp only [↓hG, ↓hJf, ↓px_vc, ↓px_ex, ↓px_jp, ↓px_gi, ↓px_gl, ↓px_gr, ↓px_s1, ↓px_s2, ↓px_nl, ↓px_i1, ↓px_l1, ↓r1_s, ↓px_q1, ↓px_i2, ↓px_l2, ↓px_il, ↓px_d0, ↓px_d1, ↓px_d2, ↓px_pop, ↓px_sp, ↓px_rd, ↓px_rf, ↓pn_xf, ↓px_pt, ↓px_sw, ↓pn_SW, ↓px_ma, ↓reduceIte, Nat.reduceEqDiff, Nat.reduceAdd, Nat.reduceSub, ↓Option.toList_some, ↓Option.toList_none, ↓List.cons_append, ↓List.nil_append, ↓kI_s, ↓kJ_s, ↓kN_s, ↓kO_s, ↓kZ_s, ↓kE_s, ↓an_rfl, ↓bt1 n00, ↓bt2 n00, ↓bf1 n10, ↓bf2 n10, ↓an_sz0, ↓an_sz1, ↓an_sz2, ↓an_sz3, ↓an_sz4, ↓an_ri, ↓an_rb0, ↓an_rb1, ↓an_b0, ↓an_b1, true_and, ↓ai_0s, ↓al_0s, ↓av_0s, ↓aq_0s, ↓ai_1s, ↓al_1s, ↓av_1s, ↓aq_1s, ↓ai_2s, ↓al_2s, ↓av_2s, ↓aq_2s, ↓ai_3s, ↓al_3s, ↓av_3s, ↓aq_3s, ↓ai_4s, ↓al_4s, ↓av_4s, ↓aq_4s, ↓ai_5s, ↓al_5s, ↓av_5s, ↓aq_5s, ↓ai_6s, ↓al_6s, ↓av_6s, ↓aq_6s, ↓ai_7s, ↓al_7s, ↓av_7s, ↓aq_7s, ↓an_l7, ↓bkx_2013]
  rw [oW_some] at hs
  exact hs
set_option maxHeartbeats 4000000 in
set_option maxRecDepth 100000 in
theorem rl_2013_189 {C : px_C} (hn : px_nd (px_tb C)) {h : Nat} (hh : 3 ≤ h) (hC : px_ok C pn_i2013 h) {k : Option px_V → px_M → Prop} {x0 : Nat} {x2 : Int32} {x3 : Int32} {x4 : Int32} {x5 : Int32} {σ : px_M} (hs : oW (f_2013_189 (px_tb C) σ x0 x2 x3 x4 x5) (Sum.elim (fun s : Int32 × Int32 × px_M => ∀ (z1 : Option px_V) (z6 : Option px_V), px_W C k 48 [some (.inr (.inr (some x0))), z1, some (.inl x2), some (.inl x3), some (.inl s.1), some (.inl s.2.1), z6] [] s.2.2) (fun q => k (some (.inl q.1)) q.2))) : ∀ (z1 : Option px_V) (z6 : Option px_V), px_W C k 189 [some (.inr (.inr (some x0))), z1, some (.inl x2), some (.inl x3), some (.inl x4), some (.inl x5), z6] [] σ := by
  intro z1 z6
  refine px_runH (h - 1) ckx_2013 [] [(48, kp_2013_48 (fun y0 y2 y3 y4 y5 τ => y0 = x0 ∧ y2 = x2 ∧ y3 = x3 ∧ (fun s : Int32 × Int32 × px_M => ∀ (z1 : Option px_V) (z6 : Option px_V), px_W C k 48 [some (.inr (.inr (some x0))), z1, some (.inl x2), some (.inl x3), some (.inl s.1), some (.inl s.2.1), z6] [] s.2.2) (y4, y5, τ)))] 80 7 (some .boolean) rfl rfl hC px_nosp (by omega) (px_cut1 (kq_2013_48 (fun y0 y2 y3 y4 y5 τ hq => by obtain ⟨rfl, rfl, rfl, hq⟩ := hq; exact hq)) px_nocut) (fun G Jf hG hJf => ?_)
  unfold f_2013_189 at hs
  simp only [↓hG, ↓hJf, ↓px_vc, ↓px_ex, ↓px_jp, ↓px_gi, ↓px_gl, ↓px_gr, ↓px_s1, ↓px_s2, ↓px_nl, ↓px_i1, ↓px_l1, ↓r1_s, ↓px_q1, ↓px_i2, ↓px_l2, ↓px_il, ↓px_d0, ↓px_d1, ↓px_d2, ↓px_pop, ↓px_sp, ↓px_rd, ↓px_rf, ↓pn_xf, ↓px_pt, ↓px_sw, ↓pn_SW, ↓px_ma, ↓reduceIte, Nat.reduceEqDiff, Nat.reduceAdd, Nat.reduceSub, ↓Option.toList_some, ↓Option.toList_none, ↓List.cons_append, ↓List.nil_append, ↓kI_s, ↓kJ_s, ↓kN_s, ↓kO_s, ↓kZ_s, ↓kE_s, ↓an_rfl, ↓bt1 n00, ↓bt2 n00, ↓bf1 n10, ↓bf2 n10, ↓an_sz0, ↓an_sz1, ↓an_sz2, ↓an_sz3, ↓an_sz4, ↓an_ri, ↓an_rb0, ↓an_rb1, ↓an_b0, ↓an_b1, true_and, ↓ai_0s, ↓al_0s, ↓av_0s, ↓aq_0s, ↓ai_1s, ↓al_1s, ↓av_1s, ↓aq_1s, ↓ai_2s, ↓al_2s, ↓av_2s, ↓aq_2s, ↓ai_3s, ↓al_3s, ↓av_3s, ↓aq_3s, ↓ai_4s, ↓al_4s, ↓av_4s, ↓aq_4s, ↓ai_5s, ↓al_5s, ↓av_5s, ↓aq_5s, ↓ai_6s, ↓al_6s, ↓av_6s, ↓aq_6s, ↓ai_7s, ↓al_7s, ↓av_7s, ↓aq_7s, ↓an_l7, ↓bkx_2013, ↓kp_2013_48]
  rw [oW_some] at hs
  exact hs
set_option maxHeartbeats 4000000 in
set_option maxRecDepth 100000 in
theorem rl_2013_185 {C : px_C} (hn : px_nd (px_tb C)) {h : Nat} (hh : 3 ≤ h) (hC : px_ok C pn_i2013 h) {k : Option px_V → px_M → Prop} {x0 : Nat} {x2 : Int32} {x3 : Int32} {x4 : Int32} {x5 : Int32} {σ : px_M} {s0 : Option Nat} {s1 : Int32} {s2 : Int32} {s3 : Int32} {s4 : Int32} (hs : oW (f_2013_185 (px_tb C) σ x0 x2 x3 x4 x5 s0 s1 s2 s3 s4) (Sum.elim (fun s : Int32 × Int32 × px_M => ∀ (z1 : Option px_V) (z6 : Option px_V), px_W C k 48 [some (.inr (.inr (some x0))), z1, some (.inl x2), some (.inl x3), some (.inl s.1), some (.inl s.2.1), z6] [] s.2.2) (fun q => k (some (.inl q.1)) q.2))) : ∀ (z1 : Option px_V) (z6 : Option px_V), px_W C k 185 [some (.inr (.inr (some x0))), z1, some (.inl x2), some (.inl x3), some (.inl x4), some (.inl x5), z6] [.inl s4, .inl s3, .inl s2, .inl s1, .inr (.inr s0)] σ := by
  intro z1 z6
  refine px_runH (h - 1) ckx_2013 [(2014, Sg_2014 (f_2014 (px_tb C)))] [(189, kp_2013_189 (fun y0 y2 y3 y4 y5 τ => y0 = x0 ∧ y2 = x2 ∧ y3 = x3 ∧ oW (f_2013_189 (px_tb C) τ y0 y2 y3 y4 y5) (Sum.elim (fun s : Int32 × Int32 × px_M => ∀ (z1 : Option px_V) (z6 : Option px_V), px_W C k 48 [some (.inr (.inr (some x0))), z1, some (.inl x2), some (.inl x3), some (.inl s.1), some (.inl s.2.1), z6] [] s.2.2) (fun q => k (some (.inl q.1)) q.2))))] 80 7 (some .boolean) rfl rfl hC (px_sp1 (mf_2014 hn (by omega)) px_nosp) (by omega) (px_cut1 (kq_2013_189 (fun y0 y2 y3 y4 y5 τ hq => by obtain ⟨rfl, rfl, rfl, hq⟩ := hq; exact rl_2013_189 hn (by omega) hC  hq)) px_nocut) (fun G Jf hG hJf => ?_)
  unfold f_2013_185 at hs
  obtain ⟨r1, hc0, hs⟩ := oW_bx hs
  obtain ⟨n2, hc1, hs⟩ := oW_bx hs
  obtain ⟨t3, l4, hc2, hs⟩ := oW_ax hs
  obtain ⟨hc3, hs⟩ := oW_gx hs
  obtain ⟨hc4, hs⟩ := oW_gx hs
  simp only [↓hG, ↓hJf, ↓px_vc, ↓px_ex, ↓px_jp, ↓px_gi, ↓px_gl, ↓px_gr, ↓px_s1, ↓px_s2, ↓px_nl, ↓px_i1, ↓px_l1, ↓r1_s, ↓px_q1, ↓px_i2, ↓px_l2, ↓px_il, ↓px_d0, ↓px_d1, ↓px_d2, ↓px_pop, ↓px_sp, ↓px_rd, ↓px_rf, ↓pn_xf, ↓px_pt, ↓px_sw, ↓pn_SW, ↓px_ma, ↓reduceIte, Nat.reduceEqDiff, Nat.reduceAdd, Nat.reduceSub, ↓Option.toList_some, ↓Option.toList_none, ↓List.cons_append, ↓List.nil_append, ↓kI_s, ↓kJ_s, ↓kN_s, ↓kO_s, ↓kZ_s, ↓kE_s, ↓an_rfl, ↓bt1 n00, ↓bt2 n00, ↓bf1 n10, ↓bf2 n10, ↓an_sz0, ↓an_sz1, ↓an_sz2, ↓an_sz3, ↓an_sz4, ↓an_ri, ↓an_rb0, ↓an_rb1, ↓an_b0, ↓an_b1, true_and, ↓ai_0s, ↓al_0s, ↓av_0s, ↓aq_0s, ↓ai_1s, ↓al_1s, ↓av_1s, ↓aq_1s, ↓ai_2s, ↓al_2s, ↓av_2s, ↓aq_2s, ↓ai_3s, ↓al_3s, ↓av_3s, ↓aq_3s, ↓ai_4s, ↓al_4s, ↓av_4s, ↓aq_4s, ↓ai_5s, ↓al_5s, ↓av_5s, ↓aq_5s, ↓ai_6s, ↓al_6s, ↓av_6s, ↓aq_6s, ↓ai_7s, ↓al_7s, ↓av_7s, ↓aq_7s, ↓an_l7, ↓bkx_2013, ↓Sg_2014, ↓kp_2013_189, ↓oW_e hc0, ↓r1_e hc1, ↓av_0e hc1, ↓av_1e hc1, ↓av_2e hc1, ↓av_3e hc1, ↓ar_e hc2, ↓an_t hc3, ↓an_t hc4]
  exact hs
set_option maxHeartbeats 4000000 in
set_option maxRecDepth 100000 in
theorem rl_2013_177 {C : px_C} (hn : px_nd (px_tb C)) {h : Nat} (hh : 3 ≤ h) (hC : px_ok C pn_i2013 h) {k : Option px_V → px_M → Prop} {x0 : Nat} {x2 : Int32} {x3 : Int32} {x4 : Int32} {x5 : Int32} {σ : px_M} {s0 : Option Nat} {s1 : Int32} {s2 : Int32} {s3 : Option Nat} {s4 : Int32} (hs : oW (f_2013_177 (px_tb C) σ x0 x2 x3 x4 x5 s0 s1 s2 s3 s4) (Sum.elim (fun s : Int32 × Int32 × px_M => ∀ (z1 : Option px_V) (z6 : Option px_V), px_W C k 48 [some (.inr (.inr (some x0))), z1, some (.inl x2), some (.inl x3), some (.inl s.1), some (.inl s.2.1), z6] [] s.2.2) (fun q => k (some (.inl q.1)) q.2))) : ∀ (z1 : Option px_V) (z6 : Option px_V), px_W C k 177 [some (.inr (.inr (some x0))), z1, some (.inl x2), some (.inl x3), some (.inl x4), some (.inl x5), z6] [.inl s4, .inr (.inr s3), .inl s2, .inl s1, .inr (.inr s0)] σ := by
  intro z1 z6
  refine px_runH (h - 1) ckx_2013 [] [(185, kp_2013_185 (fun y0 y2 y3 y4 y5 τ s0 s1 s2 s3 s4 => y0 = x0 ∧ y2 = x2 ∧ y3 = x3 ∧ oW (f_2013_185 (px_tb C) τ y0 y2 y3 y4 y5 s0 s1 s2 s3 s4) (Sum.elim (fun s : Int32 × Int32 × px_M => ∀ (z1 : Option px_V) (z6 : Option px_V), px_W C k 48 [some (.inr (.inr (some x0))), z1, some (.inl x2), some (.inl x3), some (.inl s.1), some (.inl s.2.1), z6] [] s.2.2) (fun q => k (some (.inl q.1)) q.2))))] 80 7 (some .boolean) rfl rfl hC px_nosp (by omega) (px_cut1 (kq_2013_185 (fun y0 y2 y3 y4 y5 τ s0 s1 s2 s3 s4 hq => by obtain ⟨rfl, rfl, rfl, hq⟩ := hq; exact rl_2013_185 hn (by omega) hC  hq)) px_nocut) (fun G Jf hG hJf => ?_)
  unfold f_2013_177 at hs
  obtain ⟨n1, hc0, hs⟩ := oW_bx hs
  obtain ⟨t2, l3, hc1, hs⟩ := oW_ax hs
  obtain ⟨hc2, hs⟩ := oW_gx hs
  obtain ⟨hc3, hs⟩ := oW_gx hs
  obtain ⟨hc4, hs⟩ := oW_gx hs
  obtain ⟨n4, hc5, hs⟩ := oW_bx hs
  obtain ⟨t5, l6, hc6, hs⟩ := oW_ax hs
  obtain ⟨hc7, hs⟩ := oW_gx hs
  obtain ⟨hc8, hs⟩ := oW_gx hs
  simp only [↓hG, ↓hJf, ↓px_vc, ↓px_ex, ↓px_jp, ↓px_gi, ↓px_gl, ↓px_gr, ↓px_s1, ↓px_s2, ↓px_nl, ↓px_i1, ↓px_l1, ↓r1_s, ↓px_q1, ↓px_i2, ↓px_l2, ↓px_il, ↓px_d0, ↓px_d1, ↓px_d2, ↓px_pop, ↓px_sp, ↓px_rd, ↓px_rf, ↓pn_xf, ↓px_pt, ↓px_sw, ↓pn_SW, ↓px_ma, ↓reduceIte, Nat.reduceEqDiff, Nat.reduceAdd, Nat.reduceSub, ↓Option.toList_some, ↓Option.toList_none, ↓List.cons_append, ↓List.nil_append, ↓kI_s, ↓kJ_s, ↓kN_s, ↓kO_s, ↓kZ_s, ↓kE_s, ↓an_rfl, ↓bt1 n00, ↓bt2 n00, ↓bf1 n10, ↓bf2 n10, ↓an_sz0, ↓an_sz1, ↓an_sz2, ↓an_sz3, ↓an_sz4, ↓an_ri, ↓an_rb0, ↓an_rb1, ↓an_b0, ↓an_b1, true_and, ↓ai_0s, ↓al_0s, ↓av_0s, ↓aq_0s, ↓ai_1s, ↓al_1s, ↓av_1s, ↓aq_1s, ↓ai_2s, ↓al_2s, ↓av_2s, ↓aq_2s, ↓ai_3s, ↓al_3s, ↓av_3s, ↓aq_3s, ↓ai_4s, ↓al_4s, ↓av_4s, ↓aq_4s, ↓ai_5s, ↓al_5s, ↓av_5s, ↓aq_5s, ↓ai_6s, ↓al_6s, ↓av_6s, ↓aq_6s, ↓ai_7s, ↓al_7s, ↓av_7s, ↓aq_7s, ↓an_l7, ↓bkx_2013, ↓kp_2013_185, ↓r1_e hc0, ↓av_0e hc0, ↓av_1e hc0, ↓av_2e hc0, ↓av_3e hc0, ↓ar_e hc1, ↓an_t hc2, ↓an_t hc3, ↓an_t hc4, ↓an_rv hc4, ↓r1_e hc5, ↓av_0e hc5, ↓av_1e hc5, ↓av_2e hc5, ↓av_3e hc5, ↓ar_e hc6, ↓an_t hc7, ↓an_t hc8]
  exact hs
set_option maxHeartbeats 4000000 in
set_option maxRecDepth 100000 in
theorem rl_2013_167 {C : px_C} (hn : px_nd (px_tb C)) {h : Nat} (hh : 3 ≤ h) (hC : px_ok C pn_i2013 h) {k : Option px_V → px_M → Prop} {x0 : Nat} {x2 : Int32} {x3 : Int32} {x4 : Int32} {x5 : Int32} {x6 : Int32} {σ : px_M} {s0 : Option Nat} {s1 : Int32} (hs : oW (f_2013_167 (px_tb C) σ x0 x2 x3 x4 x5 x6 s0 s1) (Sum.elim (fun s : Int32 × Int32 × px_M => ∀ (z1 : Option px_V) (z6 : Option px_V), px_W C k 48 [some (.inr (.inr (some x0))), z1, some (.inl x2), some (.inl x3), some (.inl s.1), some (.inl s.2.1), z6] [] s.2.2) (fun q => k (some (.inl q.1)) q.2))) : ∀ (z1 : Option px_V), px_W C k 167 [some (.inr (.inr (some x0))), z1, some (.inl x2), some (.inl x3), some (.inl x4), some (.inl x5), some (.inl x6)] [.inl s1, .inr (.inr s0)] σ := by
  intro z1
  refine px_runH (h - 1) ckx_2013 [] [(177, kp_2013_177 (fun y0 y2 y3 y4 y5 τ s0 s1 s2 s3 s4 => y0 = x0 ∧ y2 = x2 ∧ y3 = x3 ∧ oW (f_2013_177 (px_tb C) τ y0 y2 y3 y4 y5 s0 s1 s2 s3 s4) (Sum.elim (fun s : Int32 × Int32 × px_M => ∀ (z1 : Option px_V) (z6 : Option px_V), px_W C k 48 [some (.inr (.inr (some x0))), z1, some (.inl x2), some (.inl x3), some (.inl s.1), some (.inl s.2.1), z6] [] s.2.2) (fun q => k (some (.inl q.1)) q.2))))] 80 7 (some .boolean) rfl rfl hC px_nosp (by omega) (px_cut1 (kq_2013_177 (fun y0 y2 y3 y4 y5 τ s0 s1 s2 s3 s4 hq => by obtain ⟨rfl, rfl, rfl, hq⟩ := hq; exact rl_2013_177 hn (by omega) hC  hq)) px_nocut) (fun G Jf hG hJf => ?_)
  unfold f_2013_167 at hs
  obtain ⟨hc0, hs⟩ := oW_gx hs
  simp only [↓hG, ↓hJf, ↓px_vc, ↓px_ex, ↓px_jp, ↓px_gi, ↓px_gl, ↓px_gr, ↓px_s1, ↓px_s2, ↓px_nl, ↓px_i1, ↓px_l1, ↓r1_s, ↓px_q1, ↓px_i2, ↓px_l2, ↓px_il, ↓px_d0, ↓px_d1, ↓px_d2, ↓px_pop, ↓px_sp, ↓px_rd, ↓px_rf, ↓pn_xf, ↓px_pt, ↓px_sw, ↓pn_SW, ↓px_ma, ↓reduceIte, Nat.reduceEqDiff, Nat.reduceAdd, Nat.reduceSub, ↓Option.toList_some, ↓Option.toList_none, ↓List.cons_append, ↓List.nil_append, ↓kI_s, ↓kJ_s, ↓kN_s, ↓kO_s, ↓kZ_s, ↓kE_s, ↓an_rfl, ↓bt1 n00, ↓bt2 n00, ↓bf1 n10, ↓bf2 n10, ↓an_sz0, ↓an_sz1, ↓an_sz2, ↓an_sz3, ↓an_sz4, ↓an_ri, ↓an_rb0, ↓an_rb1, ↓an_b0, ↓an_b1, true_and, ↓ai_0s, ↓al_0s, ↓av_0s, ↓aq_0s, ↓ai_1s, ↓al_1s, ↓av_1s, ↓aq_1s, ↓ai_2s, ↓al_2s, ↓av_2s, ↓aq_2s, ↓ai_3s, ↓al_3s, ↓av_3s, ↓aq_3s, ↓ai_4s, ↓al_4s, ↓av_4s, ↓aq_4s, ↓ai_5s, ↓al_5s, ↓av_5s, ↓aq_5s, ↓ai_6s, ↓al_6s, ↓av_6s, ↓aq_6s, ↓ai_7s, ↓al_7s, ↓av_7s, ↓aq_7s, ↓an_l7, ↓bkx_2013, ↓kp_2013_177, ↓an_t hc0, ↓an_rv hc0]
  exact hs
set_option maxHeartbeats 4000000 in
set_option maxRecDepth 100000 in
theorem rl_2013_146 {C : px_C} (hn : px_nd (px_tb C)) {h : Nat} (hh : 3 ≤ h) (hC : px_ok C pn_i2013 h) {k : Option px_V → px_M → Prop} {x0 : Nat} {x2 : Int32} {x3 : Int32} {x4 : Int32} {x5 : Int32} {σ : px_M} {s0 : Option Nat} {s1 : Int32} {s2 : Int32} (hs : oW (f_2013_146 (px_tb C) σ x0 x2 x3 x4 x5 s0 s1 s2) (Sum.elim (fun s : Int32 × Int32 × px_M => ∀ (z1 : Option px_V) (z6 : Option px_V), px_W C k 48 [some (.inr (.inr (some x0))), z1, some (.inl x2), some (.inl x3), some (.inl s.1), some (.inl s.2.1), z6] [] s.2.2) (fun q => k (some (.inl q.1)) q.2))) : ∀ (z1 : Option px_V) (z6 : Option px_V), px_W C k 146 [some (.inr (.inr (some x0))), z1, some (.inl x2), some (.inl x3), some (.inl x4), some (.inl x5), z6] [.inl s2, .inl s1, .inr (.inr s0)] σ := by
  intro z1 z6
  refine px_runH (h - 1) ckx_2013 [] [(189, kp_2013_189 (fun y0 y2 y3 y4 y5 τ => y0 = x0 ∧ y2 = x2 ∧ y3 = x3 ∧ oW (f_2013_189 (px_tb C) τ y0 y2 y3 y4 y5) (Sum.elim (fun s : Int32 × Int32 × px_M => ∀ (z1 : Option px_V) (z6 : Option px_V), px_W C k 48 [some (.inr (.inr (some x0))), z1, some (.inl x2), some (.inl x3), some (.inl s.1), some (.inl s.2.1), z6] [] s.2.2) (fun q => k (some (.inl q.1)) q.2))))] 80 7 (some .boolean) rfl rfl hC px_nosp (by omega) (px_cut1 (kq_2013_189 (fun y0 y2 y3 y4 y5 τ hq => by obtain ⟨rfl, rfl, rfl, hq⟩ := hq; exact rl_2013_189 hn (by omega) hC  hq)) px_nocut) (fun G Jf hG hJf => ?_)
  unfold f_2013_146 at hs
  obtain ⟨n1, hc0, hs⟩ := oW_bx hs
  obtain ⟨t2, l3, hc1, hs⟩ := oW_ax hs
  obtain ⟨hc2, hs⟩ := oW_gx hs
  obtain ⟨hc3, hs⟩ := oW_gx hs
  simp only [↓hG, ↓hJf, ↓px_vc, ↓px_ex, ↓px_jp, ↓px_gi, ↓px_gl, ↓px_gr, ↓px_s1, ↓px_s2, ↓px_nl, ↓px_i1, ↓px_l1, ↓r1_s, ↓px_q1, ↓px_i2, ↓px_l2, ↓px_il, ↓px_d0, ↓px_d1, ↓px_d2, ↓px_pop, ↓px_sp, ↓px_rd, ↓px_rf, ↓pn_xf, ↓px_pt, ↓px_sw, ↓pn_SW, ↓px_ma, ↓reduceIte, Nat.reduceEqDiff, Nat.reduceAdd, Nat.reduceSub, ↓Option.toList_some, ↓Option.toList_none, ↓List.cons_append, ↓List.nil_append, ↓kI_s, ↓kJ_s, ↓kN_s, ↓kO_s, ↓kZ_s, ↓kE_s, ↓an_rfl, ↓bt1 n00, ↓bt2 n00, ↓bf1 n10, ↓bf2 n10, ↓an_sz0, ↓an_sz1, ↓an_sz2, ↓an_sz3, ↓an_sz4, ↓an_ri, ↓an_rb0, ↓an_rb1, ↓an_b0, ↓an_b1, true_and, ↓ai_0s, ↓al_0s, ↓av_0s, ↓aq_0s, ↓ai_1s, ↓al_1s, ↓av_1s, ↓aq_1s, ↓ai_2s, ↓al_2s, ↓av_2s, ↓aq_2s, ↓ai_3s, ↓al_3s, ↓av_3s, ↓aq_3s, ↓ai_4s, ↓al_4s, ↓av_4s, ↓aq_4s, ↓ai_5s, ↓al_5s, ↓av_5s, ↓aq_5s, ↓ai_6s, ↓al_6s, ↓av_6s, ↓aq_6s, ↓ai_7s, ↓al_7s, ↓av_7s, ↓aq_7s, ↓an_l7, ↓bkx_2013, ↓kp_2013_189, ↓r1_e hc0, ↓av_0e hc0, ↓av_1e hc0, ↓av_2e hc0, ↓av_3e hc0, ↓ar_e hc1, ↓an_t hc2, ↓an_t hc3]
  exact hs
set_option maxHeartbeats 4000000 in
set_option maxRecDepth 100000 in
theorem rl_2013_144 {C : px_C} (hn : px_nd (px_tb C)) {h : Nat} (hh : 3 ≤ h) (hC : px_ok C pn_i2013 h) {k : Option px_V → px_M → Prop} {x0 : Nat} {x2 : Int32} {x3 : Int32} {x4 : Int32} {x5 : Int32} {σ : px_M} {s0 : Option Nat} {s1 : Int32} {s2 : Int32} {s3 : Option Nat} {s4 : Int32} (hs : oW (f_2013_144 (px_tb C) σ x0 x2 x3 x4 x5 s0 s1 s2 s3 s4) (Sum.elim (fun s : Int32 × Int32 × px_M => ∀ (z1 : Option px_V) (z6 : Option px_V), px_W C k 48 [some (.inr (.inr (some x0))), z1, some (.inl x2), some (.inl x3), some (.inl s.1), some (.inl s.2.1), z6] [] s.2.2) (fun q => k (some (.inl q.1)) q.2))) : ∀ (z1 : Option px_V) (z6 : Option px_V), px_W C k 144 [some (.inr (.inr (some x0))), z1, some (.inl x2), some (.inl x3), some (.inl x4), some (.inl x5), z6] [.inl s4, .inr (.inr s3), .inl s2, .inl s1, .inr (.inr s0)] σ := by
  intro z1 z6
  refine px_runH (h - 1) ckx_2013 [] [(146, kp_2013_146 (fun y0 y2 y3 y4 y5 τ s0 s1 s2 => y0 = x0 ∧ y2 = x2 ∧ y3 = x3 ∧ oW (f_2013_146 (px_tb C) τ y0 y2 y3 y4 y5 s0 s1 s2) (Sum.elim (fun s : Int32 × Int32 × px_M => ∀ (z1 : Option px_V) (z6 : Option px_V), px_W C k 48 [some (.inr (.inr (some x0))), z1, some (.inl x2), some (.inl x3), some (.inl s.1), some (.inl s.2.1), z6] [] s.2.2) (fun q => k (some (.inl q.1)) q.2))))] 80 7 (some .boolean) rfl rfl hC px_nosp (by omega) (px_cut1 (kq_2013_146 (fun y0 y2 y3 y4 y5 τ s0 s1 s2 hq => by obtain ⟨rfl, rfl, rfl, hq⟩ := hq; exact rl_2013_146 hn (by omega) hC  hq)) px_nocut) (fun G Jf hG hJf => ?_)
  unfold f_2013_144 at hs
  obtain ⟨n1, hc0, hs⟩ := oW_bx hs
  obtain ⟨t2, l3, hc1, hs⟩ := oW_ax hs
  obtain ⟨hc2, hs⟩ := oW_gx hs
  obtain ⟨hc3, hs⟩ := oW_gx hs
  simp only [↓hG, ↓hJf, ↓px_vc, ↓px_ex, ↓px_jp, ↓px_gi, ↓px_gl, ↓px_gr, ↓px_s1, ↓px_s2, ↓px_nl, ↓px_i1, ↓px_l1, ↓r1_s, ↓px_q1, ↓px_i2, ↓px_l2, ↓px_il, ↓px_d0, ↓px_d1, ↓px_d2, ↓px_pop, ↓px_sp, ↓px_rd, ↓px_rf, ↓pn_xf, ↓px_pt, ↓px_sw, ↓pn_SW, ↓px_ma, ↓reduceIte, Nat.reduceEqDiff, Nat.reduceAdd, Nat.reduceSub, ↓Option.toList_some, ↓Option.toList_none, ↓List.cons_append, ↓List.nil_append, ↓kI_s, ↓kJ_s, ↓kN_s, ↓kO_s, ↓kZ_s, ↓kE_s, ↓an_rfl, ↓bt1 n00, ↓bt2 n00, ↓bf1 n10, ↓bf2 n10, ↓an_sz0, ↓an_sz1, ↓an_sz2, ↓an_sz3, ↓an_sz4, ↓an_ri, ↓an_rb0, ↓an_rb1, ↓an_b0, ↓an_b1, true_and, ↓ai_0s, ↓al_0s, ↓av_0s, ↓aq_0s, ↓ai_1s, ↓al_1s, ↓av_1s, ↓aq_1s, ↓ai_2s, ↓al_2s, ↓av_2s, ↓aq_2s, ↓ai_3s, ↓al_3s, ↓av_3s, ↓aq_3s, ↓ai_4s, ↓al_4s, ↓av_4s, ↓aq_4s, ↓ai_5s, ↓al_5s, ↓av_5s, ↓aq_5s, ↓ai_6s, ↓al_6s, ↓av_6s, ↓aq_6s, ↓ai_7s, ↓al_7s, ↓av_7s, ↓aq_7s, ↓an_l7, ↓bkx_2013, ↓kp_2013_146, ↓r1_e hc0, ↓av_0e hc0, ↓av_1e hc0, ↓av_2e hc0, ↓av_3e hc0, ↓ar_e hc1, ↓an_t hc2, ↓an_t hc3]
  exact hs
set_option maxHeartbeats 4000000 in
set_option maxRecDepth 100000 in
theorem rl_2013_135 {C : px_C} (hn : px_nd (px_tb C)) {h : Nat} (hh : 3 ≤ h) (hC : px_ok C pn_i2013 h) {k : Option px_V → px_M → Prop} {x0 : Nat} {x2 : Int32} {x3 : Int32} {x4 : Int32} {x5 : Int32} {σ : px_M} {s0 : Option Nat} {s1 : Int32} (hs : oW (f_2013_135 (px_tb C) σ x0 x2 x3 x4 x5 s0 s1) (Sum.elim (fun s : Int32 × Int32 × px_M => ∀ (z1 : Option px_V) (z6 : Option px_V), px_W C k 48 [some (.inr (.inr (some x0))), z1, some (.inl x2), some (.inl x3), some (.inl s.1), some (.inl s.2.1), z6] [] s.2.2) (fun q => k (some (.inl q.1)) q.2))) : ∀ (z1 : Option px_V) (z6 : Option px_V), px_W C k 135 [some (.inr (.inr (some x0))), z1, some (.inl x2), some (.inl x3), some (.inl x4), some (.inl x5), z6] [.inl s1, .inr (.inr s0)] σ := by
  intro z1 z6
  refine px_runH (h - 1) ckx_2013 [] [(144, kp_2013_144 (fun y0 y2 y3 y4 y5 τ s0 s1 s2 s3 s4 => y0 = x0 ∧ y2 = x2 ∧ y3 = x3 ∧ oW (f_2013_144 (px_tb C) τ y0 y2 y3 y4 y5 s0 s1 s2 s3 s4) (Sum.elim (fun s : Int32 × Int32 × px_M => ∀ (z1 : Option px_V) (z6 : Option px_V), px_W C k 48 [some (.inr (.inr (some x0))), z1, some (.inl x2), some (.inl x3), some (.inl s.1), some (.inl s.2.1), z6] [] s.2.2) (fun q => k (some (.inl q.1)) q.2))))] 80 7 (some .boolean) rfl rfl hC px_nosp (by omega) (px_cut1 (kq_2013_144 (fun y0 y2 y3 y4 y5 τ s0 s1 s2 s3 s4 hq => by obtain ⟨rfl, rfl, rfl, hq⟩ := hq; exact rl_2013_144 hn (by omega) hC  hq)) px_nocut) (fun G Jf hG hJf => ?_)
  unfold f_2013_135 at hs
  obtain ⟨hc0, hs⟩ := oW_gx hs
  simp only [↓hG, ↓hJf, ↓px_vc, ↓px_ex, ↓px_jp, ↓px_gi, ↓px_gl, ↓px_gr, ↓px_s1, ↓px_s2, ↓px_nl, ↓px_i1, ↓px_l1, ↓r1_s, ↓px_q1, ↓px_i2, ↓px_l2, ↓px_il, ↓px_d0, ↓px_d1, ↓px_d2, ↓px_pop, ↓px_sp, ↓px_rd, ↓px_rf, ↓pn_xf, ↓px_pt, ↓px_sw, ↓pn_SW, ↓px_ma, ↓reduceIte, Nat.reduceEqDiff, Nat.reduceAdd, Nat.reduceSub, ↓Option.toList_some, ↓Option.toList_none, ↓List.cons_append, ↓List.nil_append, ↓kI_s, ↓kJ_s, ↓kN_s, ↓kO_s, ↓kZ_s, ↓kE_s, ↓an_rfl, ↓bt1 n00, ↓bt2 n00, ↓bf1 n10, ↓bf2 n10, ↓an_sz0, ↓an_sz1, ↓an_sz2, ↓an_sz3, ↓an_sz4, ↓an_ri, ↓an_rb0, ↓an_rb1, ↓an_b0, ↓an_b1, true_and, ↓ai_0s, ↓al_0s, ↓av_0s, ↓aq_0s, ↓ai_1s, ↓al_1s, ↓av_1s, ↓aq_1s, ↓ai_2s, ↓al_2s, ↓av_2s, ↓aq_2s, ↓ai_3s, ↓al_3s, ↓av_3s, ↓aq_3s, ↓ai_4s, ↓al_4s, ↓av_4s, ↓aq_4s, ↓ai_5s, ↓al_5s, ↓av_5s, ↓aq_5s, ↓ai_6s, ↓al_6s, ↓av_6s, ↓aq_6s, ↓ai_7s, ↓al_7s, ↓av_7s, ↓aq_7s, ↓an_l7, ↓bkx_2013, ↓kp_2013_144, ↓an_t hc0, ↓an_rv hc0]
  exact hs
set_option maxHeartbeats 4000000 in
set_option maxRecDepth 100000 in
theorem rl_2013_114 {C : px_C} (hn : px_nd (px_tb C)) {h : Nat} (hh : 3 ≤ h) (hC : px_ok C pn_i2013 h) {k : Option px_V → px_M → Prop} {x0 : Nat} {x2 : Int32} {x3 : Int32} {x4 : Int32} {x5 : Int32} {x6 : Int32} {σ : px_M} (hs : oW (f_2013_114 (px_tb C) σ x0 x2 x3 x4 x5 x6) (Sum.elim (fun s : Int32 × Int32 × px_M => ∀ (z1 : Option px_V) (z6 : Option px_V), px_W C k 48 [some (.inr (.inr (some x0))), z1, some (.inl x2), some (.inl x3), some (.inl s.1), some (.inl s.2.1), z6] [] s.2.2) (fun q => k (some (.inl q.1)) q.2))) : ∀ (z1 : Option px_V), px_W C k 114 [some (.inr (.inr (some x0))), z1, some (.inl x2), some (.inl x3), some (.inl x4), some (.inl x5), some (.inl x6)] [] σ := by
  intro z1
  refine px_runH (h - 1) ckx_2013 [] [(135, kp_2013_135 (fun y0 y2 y3 y4 y5 τ s0 s1 => y0 = x0 ∧ y2 = x2 ∧ y3 = x3 ∧ oW (f_2013_135 (px_tb C) τ y0 y2 y3 y4 y5 s0 s1) (Sum.elim (fun s : Int32 × Int32 × px_M => ∀ (z1 : Option px_V) (z6 : Option px_V), px_W C k 48 [some (.inr (.inr (some x0))), z1, some (.inl x2), some (.inl x3), some (.inl s.1), some (.inl s.2.1), z6] [] s.2.2) (fun q => k (some (.inl q.1)) q.2)))), (167, kp_2013_167 (fun y0 y2 y3 y4 y5 y6 τ s0 s1 => y0 = x0 ∧ y2 = x2 ∧ y3 = x3 ∧ oW (f_2013_167 (px_tb C) τ y0 y2 y3 y4 y5 y6 s0 s1) (Sum.elim (fun s : Int32 × Int32 × px_M => ∀ (z1 : Option px_V) (z6 : Option px_V), px_W C k 48 [some (.inr (.inr (some x0))), z1, some (.inl x2), some (.inl x3), some (.inl s.1), some (.inl s.2.1), z6] [] s.2.2) (fun q => k (some (.inl q.1)) q.2)))), (189, kp_2013_189 (fun y0 y2 y3 y4 y5 τ => y0 = x0 ∧ y2 = x2 ∧ y3 = x3 ∧ oW (f_2013_189 (px_tb C) τ y0 y2 y3 y4 y5) (Sum.elim (fun s : Int32 × Int32 × px_M => ∀ (z1 : Option px_V) (z6 : Option px_V), px_W C k 48 [some (.inr (.inr (some x0))), z1, some (.inl x2), some (.inl x3), some (.inl s.1), some (.inl s.2.1), z6] [] s.2.2) (fun q => k (some (.inl q.1)) q.2))))] 80 7 (some .boolean) rfl rfl hC px_nosp (by omega) (px_cut1 (kq_2013_135 (fun y0 y2 y3 y4 y5 τ s0 s1 hq => by obtain ⟨rfl, rfl, rfl, hq⟩ := hq; exact rl_2013_135 hn (by omega) hC  hq)) (px_cut1 (kq_2013_167 (fun y0 y2 y3 y4 y5 y6 τ s0 s1 hq => by obtain ⟨rfl, rfl, rfl, hq⟩ := hq; exact rl_2013_167 hn (by omega) hC  hq)) (px_cut1 (kq_2013_189 (fun y0 y2 y3 y4 y5 τ hq => by obtain ⟨rfl, rfl, rfl, hq⟩ := hq; exact rl_2013_189 hn (by omega) hC  hq)) px_nocut))) (fun G Jf hG hJf => ?_)
  unfold f_2013_114 at hs
  by_cases hc0 : x6 = (nI 2006)
  · replace hs := bW_t hs hc0
    by_cases hc1 : x4 ≤ nI 0
    · replace hs := oW_t hs hc1
      simp only [↓hG, ↓hJf, ↓px_vc, ↓px_ex, ↓px_jp, ↓px_gi, ↓px_gl, ↓px_gr, ↓px_s1, ↓px_s2, ↓px_nl, ↓px_i1, ↓px_l1, ↓r1_s, ↓px_q1, ↓px_i2, ↓px_l2, ↓px_il, ↓px_d0, ↓px_d1, ↓px_d2, ↓px_pop, ↓px_sp, ↓px_rd, ↓px_rf, ↓pn_xf, ↓px_pt, ↓px_sw, ↓pn_SW, ↓px_ma, ↓reduceIte, Nat.reduceEqDiff, Nat.reduceAdd, Nat.reduceSub, ↓Option.toList_some, ↓Option.toList_none, ↓List.cons_append, ↓List.nil_append, ↓kI_s, ↓kJ_s, ↓kN_s, ↓kO_s, ↓kZ_s, ↓kE_s, ↓an_rfl, ↓bt1 n00, ↓bt2 n00, ↓bf1 n10, ↓bf2 n10, ↓an_sz0, ↓an_sz1, ↓an_sz2, ↓an_sz3, ↓an_sz4, ↓an_ri, ↓an_rb0, ↓an_rb1, ↓an_b0, ↓an_b1, true_and, ↓ai_0s, ↓al_0s, ↓av_0s, ↓aq_0s, ↓ai_1s, ↓al_1s, ↓av_1s, ↓aq_1s, ↓ai_2s, ↓al_2s, ↓av_2s, ↓aq_2s, ↓ai_3s, ↓al_3s, ↓av_3s, ↓aq_3s, ↓ai_4s, ↓al_4s, ↓av_4s, ↓aq_4s, ↓ai_5s, ↓al_5s, ↓av_5s, ↓aq_5s, ↓ai_6s, ↓al_6s, ↓av_6s, ↓aq_6s, ↓ai_7s, ↓al_7s, ↓av_7s, ↓aq_7s, ↓an_l7, ↓bkx_2013, ↓kp_2013_135, ↓kp_2013_167, ↓kp_2013_189, ↓bt1 hc0, ↓bt2 hc0, ↓bt1 hc1, ↓bt2 hc1]
      exact hs
    · replace hs := oW_f hs hc1
      obtain ⟨hc2, hs⟩ := oW_gx hs
      simp only [↓hG, ↓hJf, ↓px_vc, ↓px_ex, ↓px_jp, ↓px_gi, ↓px_gl, ↓px_gr, ↓px_s1, ↓px_s2, ↓px_nl, ↓px_i1, ↓px_l1, ↓r1_s, ↓px_q1, ↓px_i2, ↓px_l2, ↓px_il, ↓px_d0, ↓px_d1, ↓px_d2, ↓px_pop, ↓px_sp, ↓px_rd, ↓px_rf, ↓pn_xf, ↓px_pt, ↓px_sw, ↓pn_SW, ↓px_ma, ↓reduceIte, Nat.reduceEqDiff, Nat.reduceAdd, Nat.reduceSub, ↓Option.toList_some, ↓Option.toList_none, ↓List.cons_append, ↓List.nil_append, ↓kI_s, ↓kJ_s, ↓kN_s, ↓kO_s, ↓kZ_s, ↓kE_s, ↓an_rfl, ↓bt1 n00, ↓bt2 n00, ↓bf1 n10, ↓bf2 n10, ↓an_sz0, ↓an_sz1, ↓an_sz2, ↓an_sz3, ↓an_sz4, ↓an_ri, ↓an_rb0, ↓an_rb1, ↓an_b0, ↓an_b1, true_and, ↓ai_0s, ↓al_0s, ↓av_0s, ↓aq_0s, ↓ai_1s, ↓al_1s, ↓av_1s, ↓aq_1s, ↓ai_2s, ↓al_2s, ↓av_2s, ↓aq_2s, ↓ai_3s, ↓al_3s, ↓av_3s, ↓aq_3s, ↓ai_4s, ↓al_4s, ↓av_4s, ↓aq_4s, ↓ai_5s, ↓al_5s, ↓av_5s, ↓aq_5s, ↓ai_6s, ↓al_6s, ↓av_6s, ↓aq_6s, ↓ai_7s, ↓al_7s, ↓av_7s, ↓aq_7s, ↓an_l7, ↓bkx_2013, ↓kp_2013_135, ↓kp_2013_167, ↓kp_2013_189, ↓bt1 hc0, ↓bt2 hc0, ↓bf1 hc1, ↓bf2 hc1, ↓an_t hc2, ↓an_rv hc2]
      exact hs
  · replace hs := bW_f hs hc0
    by_cases hc1 : x4 ≤ (nI 1)
    · replace hs := oW_t hs hc1
      simp only [↓hG, ↓hJf, ↓px_vc, ↓px_ex, ↓px_jp, ↓px_gi, ↓px_gl, ↓px_gr, ↓px_s1, ↓px_s2, ↓px_nl, ↓px_i1, ↓px_l1, ↓r1_s, ↓px_q1, ↓px_i2, ↓px_l2, ↓px_il, ↓px_d0, ↓px_d1, ↓px_d2, ↓px_pop, ↓px_sp, ↓px_rd, ↓px_rf, ↓pn_xf, ↓px_pt, ↓px_sw, ↓pn_SW, ↓px_ma, ↓reduceIte, Nat.reduceEqDiff, Nat.reduceAdd, Nat.reduceSub, ↓Option.toList_some, ↓Option.toList_none, ↓List.cons_append, ↓List.nil_append, ↓kI_s, ↓kJ_s, ↓kN_s, ↓kO_s, ↓kZ_s, ↓kE_s, ↓an_rfl, ↓bt1 n00, ↓bt2 n00, ↓bf1 n10, ↓bf2 n10, ↓an_sz0, ↓an_sz1, ↓an_sz2, ↓an_sz3, ↓an_sz4, ↓an_ri, ↓an_rb0, ↓an_rb1, ↓an_b0, ↓an_b1, true_and, ↓ai_0s, ↓al_0s, ↓av_0s, ↓aq_0s, ↓ai_1s, ↓al_1s, ↓av_1s, ↓aq_1s, ↓ai_2s, ↓al_2s, ↓av_2s, ↓aq_2s, ↓ai_3s, ↓al_3s, ↓av_3s, ↓aq_3s, ↓ai_4s, ↓al_4s, ↓av_4s, ↓aq_4s, ↓ai_5s, ↓al_5s, ↓av_5s, ↓aq_5s, ↓ai_6s, ↓al_6s, ↓av_6s, ↓aq_6s, ↓ai_7s, ↓al_7s, ↓av_7s, ↓aq_7s, ↓an_l7, ↓bkx_2013, ↓kp_2013_135, ↓kp_2013_167, ↓kp_2013_189, ↓bf1 hc0, ↓bf2 hc0, ↓bt1 hc1, ↓bt2 hc1]
      exact hs
    · replace hs := oW_f hs hc1
      obtain ⟨hc2, hs⟩ := oW_gx hs
      simp only [↓hG, ↓hJf, ↓px_vc, ↓px_ex, ↓px_jp, ↓px_gi, ↓px_gl, ↓px_gr, ↓px_s1, ↓px_s2, ↓px_nl, ↓px_i1, ↓px_l1, ↓r1_s, ↓px_q1, ↓px_i2, ↓px_l2, ↓px_il, ↓px_d0, ↓px_d1, ↓px_d2, ↓px_pop, ↓px_sp, ↓px_rd, ↓px_rf, ↓pn_xf, ↓px_pt, ↓px_sw, ↓pn_SW, ↓px_ma, ↓reduceIte, Nat.reduceEqDiff, Nat.reduceAdd, Nat.reduceSub, ↓Option.toList_some, ↓Option.toList_none, ↓List.cons_append, ↓List.nil_append, ↓kI_s, ↓kJ_s, ↓kN_s, ↓kO_s, ↓kZ_s, ↓kE_s, ↓an_rfl, ↓bt1 n00, ↓bt2 n00, ↓bf1 n10, ↓bf2 n10, ↓an_sz0, ↓an_sz1, ↓an_sz2, ↓an_sz3, ↓an_sz4, ↓an_ri, ↓an_rb0, ↓an_rb1, ↓an_b0, ↓an_b1, true_and, ↓ai_0s, ↓al_0s, ↓av_0s, ↓aq_0s, ↓ai_1s, ↓al_1s, ↓av_1s, ↓aq_1s, ↓ai_2s, ↓al_2s, ↓av_2s, ↓aq_2s, ↓ai_3s, ↓al_3s, ↓av_3s, ↓aq_3s, ↓ai_4s, ↓al_4s, ↓av_4s, ↓aq_4s, ↓ai_5s, ↓al_5s, ↓av_5s, ↓aq_5s, ↓ai_6s, ↓al_6s, ↓av_6s, ↓aq_6s, ↓ai_7s, ↓al_7s, ↓av_7s, ↓aq_7s, ↓an_l7, ↓bkx_2013, ↓kp_2013_135, ↓kp_2013_167, ↓kp_2013_189, ↓bf1 hc0, ↓bf2 hc0, ↓bf1 hc1, ↓bf2 hc1, ↓an_t hc2, ↓an_rv hc2]
      exact hs
set_option maxHeartbeats 4000000 in
set_option maxRecDepth 100000 in
theorem rl_2013_108 {C : px_C} (hn : px_nd (px_tb C)) {h : Nat} (hh : 3 ≤ h) (hC : px_ok C pn_i2013 h) {k : Option px_V → px_M → Prop} {x0 : Nat} {x2 : Int32} {x3 : Int32} {x4 : Int32} {x5 : Int32} {σ : px_M} (hs : oW (f_2013_108 (px_tb C) σ x0 x2 x3 x4 x5) (Sum.elim (fun s : Int32 × Int32 × px_M => ∀ (z1 : Option px_V) (z6 : Option px_V), px_W C k 48 [some (.inr (.inr (some x0))), z1, some (.inl x2), some (.inl x3), some (.inl s.1), some (.inl s.2.1), z6] [] s.2.2) (fun q => k (some (.inl q.1)) q.2))) : ∀ (z1 : Option px_V) (z6 : Option px_V), px_W C k 108 [some (.inr (.inr (some x0))), z1, some (.inl x2), some (.inl x3), some (.inl x4), some (.inl x5), z6] [] σ := by
  intro z1 z6
  refine px_runH (h - 1) ckx_2013 [] [(189, kp_2013_189 (fun y0 y2 y3 y4 y5 τ => y0 = x0 ∧ y2 = x2 ∧ y3 = x3 ∧ oW (f_2013_189 (px_tb C) τ y0 y2 y3 y4 y5) (Sum.elim (fun s : Int32 × Int32 × px_M => ∀ (z1 : Option px_V) (z6 : Option px_V), px_W C k 48 [some (.inr (.inr (some x0))), z1, some (.inl x2), some (.inl x3), some (.inl s.1), some (.inl s.2.1), z6] [] s.2.2) (fun q => k (some (.inl q.1)) q.2))))] 80 7 (some .boolean) rfl rfl hC px_nosp (by omega) (px_cut1 (kq_2013_189 (fun y0 y2 y3 y4 y5 τ hq => by obtain ⟨rfl, rfl, rfl, hq⟩ := hq; exact rl_2013_189 hn (by omega) hC  hq)) px_nocut) (fun G Jf hG hJf => ?_)
  unfold f_2013_108 at hs
  simp only [↓hG, ↓hJf, ↓px_vc, ↓px_ex, ↓px_jp, ↓px_gi, ↓px_gl, ↓px_gr, ↓px_s1, ↓px_s2, ↓px_nl, ↓px_i1, ↓px_l1, ↓r1_s, ↓px_q1, ↓px_i2, ↓px_l2, ↓px_il, ↓px_d0, ↓px_d1, ↓px_d2, ↓px_pop, ↓px_sp, ↓px_rd, ↓px_rf, ↓pn_xf, ↓px_pt, ↓px_sw, ↓pn_SW, ↓px_ma, ↓reduceIte, Nat.reduceEqDiff, Nat.reduceAdd, Nat.reduceSub, ↓Option.toList_some, ↓Option.toList_none, ↓List.cons_append, ↓List.nil_append, ↓kI_s, ↓kJ_s, ↓kN_s, ↓kO_s, ↓kZ_s, ↓kE_s, ↓an_rfl, ↓bt1 n00, ↓bt2 n00, ↓bf1 n10, ↓bf2 n10, ↓an_sz0, ↓an_sz1, ↓an_sz2, ↓an_sz3, ↓an_sz4, ↓an_ri, ↓an_rb0, ↓an_rb1, ↓an_b0, ↓an_b1, true_and, ↓ai_0s, ↓al_0s, ↓av_0s, ↓aq_0s, ↓ai_1s, ↓al_1s, ↓av_1s, ↓aq_1s, ↓ai_2s, ↓al_2s, ↓av_2s, ↓aq_2s, ↓ai_3s, ↓al_3s, ↓av_3s, ↓aq_3s, ↓ai_4s, ↓al_4s, ↓av_4s, ↓aq_4s, ↓ai_5s, ↓al_5s, ↓av_5s, ↓aq_5s, ↓ai_6s, ↓al_6s, ↓av_6s, ↓aq_6s, ↓ai_7s, ↓al_7s, ↓av_7s, ↓aq_7s, ↓an_l7, ↓bkx_2013, ↓kp_2013_189]
  exact hs
set_option maxHeartbeats 4000000 in
set_option maxRecDepth 100000 in
theorem rl_2013_74 {C : px_C} (hn : px_nd (px_tb C)) {h : Nat} (hh : 3 ≤ h) (hC : px_ok C pn_i2013 h) {k : Option px_V → px_M → Prop} {x0 : Nat} {x2 : Int32} {x3 : Int32} {x4 : Int32} {x5 : Int32} {x6 : Int32} {σ : px_M} (hs : oW (f_2013_74 (px_tb C) σ x0 x2 x3 x4 x5 x6) (Sum.elim (fun s : Int32 × Int32 × px_M => ∀ (z1 : Option px_V) (z6 : Option px_V), px_W C k 48 [some (.inr (.inr (some x0))), z1, some (.inl x2), some (.inl x3), some (.inl s.1), some (.inl s.2.1), z6] [] s.2.2) (fun q => k (some (.inl q.1)) q.2))) : ∀ (z1 : Option px_V), px_W C k 74 [some (.inr (.inr (some x0))), z1, some (.inl x2), some (.inl x3), some (.inl x4), some (.inl x5), some (.inl x6)] [] σ := by
  intro z1
  refine px_runH (h - 1) ckx_2013 [(2012, Sg_2012 (f_2012 (px_tb C)))] [(108, kp_2013_108 (fun y0 y2 y3 y4 y5 τ => y0 = x0 ∧ y2 = x2 ∧ y3 = x3 ∧ oW (f_2013_108 (px_tb C) τ y0 y2 y3 y4 y5) (Sum.elim (fun s : Int32 × Int32 × px_M => ∀ (z1 : Option px_V) (z6 : Option px_V), px_W C k 48 [some (.inr (.inr (some x0))), z1, some (.inl x2), some (.inl x3), some (.inl s.1), some (.inl s.2.1), z6] [] s.2.2) (fun q => k (some (.inl q.1)) q.2)))), (189, kp_2013_189 (fun y0 y2 y3 y4 y5 τ => y0 = x0 ∧ y2 = x2 ∧ y3 = x3 ∧ oW (f_2013_189 (px_tb C) τ y0 y2 y3 y4 y5) (Sum.elim (fun s : Int32 × Int32 × px_M => ∀ (z1 : Option px_V) (z6 : Option px_V), px_W C k 48 [some (.inr (.inr (some x0))), z1, some (.inl x2), some (.inl x3), some (.inl s.1), some (.inl s.2.1), z6] [] s.2.2) (fun q => k (some (.inl q.1)) q.2))))] 80 7 (some .boolean) rfl rfl hC (px_sp1 (mf_2012 hn (by omega)) px_nosp) (by omega) (px_cut1 (kq_2013_108 (fun y0 y2 y3 y4 y5 τ hq => by obtain ⟨rfl, rfl, rfl, hq⟩ := hq; exact rl_2013_108 hn (by omega) hC  hq)) (px_cut1 (kq_2013_189 (fun y0 y2 y3 y4 y5 τ hq => by obtain ⟨rfl, rfl, rfl, hq⟩ := hq; exact rl_2013_189 hn (by omega) hC  hq)) px_nocut)) (fun G Jf hG hJf => ?_)
  unfold f_2013_74 at hs
  by_cases hc0 : (nI 64) ≤ x4
  · replace hs := oW_t hs hc0
    simp only [↓hG, ↓hJf, ↓px_vc, ↓px_ex, ↓px_jp, ↓px_gi, ↓px_gl, ↓px_gr, ↓px_s1, ↓px_s2, ↓px_nl, ↓px_i1, ↓px_l1, ↓r1_s, ↓px_q1, ↓px_i2, ↓px_l2, ↓px_il, ↓px_d0, ↓px_d1, ↓px_d2, ↓px_pop, ↓px_sp, ↓px_rd, ↓px_rf, ↓pn_xf, ↓px_pt, ↓px_sw, ↓pn_SW, ↓px_ma, ↓reduceIte, Nat.reduceEqDiff, Nat.reduceAdd, Nat.reduceSub, ↓Option.toList_some, ↓Option.toList_none, ↓List.cons_append, ↓List.nil_append, ↓kI_s, ↓kJ_s, ↓kN_s, ↓kO_s, ↓kZ_s, ↓kE_s, ↓an_rfl, ↓bt1 n00, ↓bt2 n00, ↓bf1 n10, ↓bf2 n10, ↓an_sz0, ↓an_sz1, ↓an_sz2, ↓an_sz3, ↓an_sz4, ↓an_ri, ↓an_rb0, ↓an_rb1, ↓an_b0, ↓an_b1, true_and, ↓ai_0s, ↓al_0s, ↓av_0s, ↓aq_0s, ↓ai_1s, ↓al_1s, ↓av_1s, ↓aq_1s, ↓ai_2s, ↓al_2s, ↓av_2s, ↓aq_2s, ↓ai_3s, ↓al_3s, ↓av_3s, ↓aq_3s, ↓ai_4s, ↓al_4s, ↓av_4s, ↓aq_4s, ↓ai_5s, ↓al_5s, ↓av_5s, ↓aq_5s, ↓ai_6s, ↓al_6s, ↓av_6s, ↓aq_6s, ↓ai_7s, ↓al_7s, ↓av_7s, ↓aq_7s, ↓an_l7, ↓bkx_2013, ↓Sg_2012, ↓kp_2013_108, ↓kp_2013_189, ↓bt1 hc0, ↓bt2 hc0]
    exact hs
  · replace hs := oW_f hs hc0
    obtain ⟨hc1, hs⟩ := oW_gx hs
    by_cases hc2 : (nI 1000) ≤ x6
    · replace hs := oW_t hs hc2
      obtain ⟨r1, hc3, hs⟩ := oW_bx hs
      obtain ⟨n2, hc4, hs⟩ := oW_bx hs
      obtain ⟨t3, l4, hc5, hs⟩ := oW_ax hs
      obtain ⟨hc6, hs⟩ := oW_gx hs
      obtain ⟨hc7, hs⟩ := oW_gx hs
      simp only [↓hG, ↓hJf, ↓px_vc, ↓px_ex, ↓px_jp, ↓px_gi, ↓px_gl, ↓px_gr, ↓px_s1, ↓px_s2, ↓px_nl, ↓px_i1, ↓px_l1, ↓r1_s, ↓px_q1, ↓px_i2, ↓px_l2, ↓px_il, ↓px_d0, ↓px_d1, ↓px_d2, ↓px_pop, ↓px_sp, ↓px_rd, ↓px_rf, ↓pn_xf, ↓px_pt, ↓px_sw, ↓pn_SW, ↓px_ma, ↓reduceIte, Nat.reduceEqDiff, Nat.reduceAdd, Nat.reduceSub, ↓Option.toList_some, ↓Option.toList_none, ↓List.cons_append, ↓List.nil_append, ↓kI_s, ↓kJ_s, ↓kN_s, ↓kO_s, ↓kZ_s, ↓kE_s, ↓an_rfl, ↓bt1 n00, ↓bt2 n00, ↓bf1 n10, ↓bf2 n10, ↓an_sz0, ↓an_sz1, ↓an_sz2, ↓an_sz3, ↓an_sz4, ↓an_ri, ↓an_rb0, ↓an_rb1, ↓an_b0, ↓an_b1, true_and, ↓ai_0s, ↓al_0s, ↓av_0s, ↓aq_0s, ↓ai_1s, ↓al_1s, ↓av_1s, ↓aq_1s, ↓ai_2s, ↓al_2s, ↓av_2s, ↓aq_2s, ↓ai_3s, ↓al_3s, ↓av_3s, ↓aq_3s, ↓ai_4s, ↓al_4s, ↓av_4s, ↓aq_4s, ↓ai_5s, ↓al_5s, ↓av_5s, ↓aq_5s, ↓ai_6s, ↓al_6s, ↓av_6s, ↓aq_6s, ↓ai_7s, ↓al_7s, ↓av_7s, ↓aq_7s, ↓an_l7, ↓bkx_2013, ↓Sg_2012, ↓kp_2013_108, ↓kp_2013_189, ↓bf1 hc0, ↓bf2 hc0, ↓an_t hc1, ↓an_rv hc1, ↓bt1 hc2, ↓bt2 hc2, ↓oW_e hc3, ↓r1_e hc4, ↓av_0e hc4, ↓av_1e hc4, ↓av_2e hc4, ↓av_3e hc4, ↓ar_e hc5, ↓an_t hc6, ↓an_t hc7]
      exact hs
    · replace hs := oW_f hs hc2
      obtain ⟨n5, hc3, hs⟩ := oW_bx hs
      obtain ⟨t6, l7, hc4, hs⟩ := oW_ax hs
      obtain ⟨hc5, hs⟩ := oW_gx hs
      obtain ⟨hc6, hs⟩ := oW_gx hs
      simp only [↓hG, ↓hJf, ↓px_vc, ↓px_ex, ↓px_jp, ↓px_gi, ↓px_gl, ↓px_gr, ↓px_s1, ↓px_s2, ↓px_nl, ↓px_i1, ↓px_l1, ↓r1_s, ↓px_q1, ↓px_i2, ↓px_l2, ↓px_il, ↓px_d0, ↓px_d1, ↓px_d2, ↓px_pop, ↓px_sp, ↓px_rd, ↓px_rf, ↓pn_xf, ↓px_pt, ↓px_sw, ↓pn_SW, ↓px_ma, ↓reduceIte, Nat.reduceEqDiff, Nat.reduceAdd, Nat.reduceSub, ↓Option.toList_some, ↓Option.toList_none, ↓List.cons_append, ↓List.nil_append, ↓kI_s, ↓kJ_s, ↓kN_s, ↓kO_s, ↓kZ_s, ↓kE_s, ↓an_rfl, ↓bt1 n00, ↓bt2 n00, ↓bf1 n10, ↓bf2 n10, ↓an_sz0, ↓an_sz1, ↓an_sz2, ↓an_sz3, ↓an_sz4, ↓an_ri, ↓an_rb0, ↓an_rb1, ↓an_b0, ↓an_b1, true_and, ↓ai_0s, ↓al_0s, ↓av_0s, ↓aq_0s, ↓ai_1s, ↓al_1s, ↓av_1s, ↓aq_1s, ↓ai_2s, ↓al_2s, ↓av_2s, ↓aq_2s, ↓ai_3s, ↓al_3s, ↓av_3s, ↓aq_3s, ↓ai_4s, ↓al_4s, ↓av_4s, ↓aq_4s, ↓ai_5s, ↓al_5s, ↓av_5s, ↓aq_5s, ↓ai_6s, ↓al_6s, ↓av_6s, ↓aq_6s, ↓ai_7s, ↓al_7s, ↓av_7s, ↓aq_7s, ↓an_l7, ↓bkx_2013, ↓Sg_2012, ↓kp_2013_108, ↓kp_2013_189, ↓bf1 hc0, ↓bf2 hc0, ↓an_t hc1, ↓an_rv hc1, ↓bf1 hc2, ↓bf2 hc2, ↓r1_e hc3, ↓av_0e hc3, ↓av_1e hc3, ↓av_2e hc3, ↓av_3e hc3, ↓ar_e hc4, ↓an_t hc5, ↓an_t hc6]
      exact hs
set_option maxHeartbeats 4000000 in
set_option maxRecDepth 100000 in
theorem rl_2013_48 {C : px_C} (hn : px_nd (px_tb C)) {h : Nat} (hh : 3 ≤ h) (hC : px_ok C pn_i2013 h) {k : Option px_V → px_M → Prop} {x0 : Nat} {x2 : Int32} {x3 : Int32} : ∀ s : Int32 × Int32 × px_M, oW (f_2013_48 (px_tb C) x0 x2 x3 s.1 s.2.1 s.2.2) (fun q => k (some (.inl q.1)) q.2) → (fun s : Int32 × Int32 × px_M => ∀ (z1 : Option px_V) (z6 : Option px_V), px_W C k 48 [some (.inr (.inr (some x0))), z1, some (.inl x2), some (.inl x3), some (.inl s.1), some (.inl s.2.1), z6] [] s.2.2) s := by
  intro s h0
  refine lpO_sound (P := (fun s : Int32 × Int32 × px_M => ∀ (z1 : Option px_V) (z6 : Option px_V), px_W C k 48 [some (.inr (.inr (some x0))), z1, some (.inl x2), some (.inl x3), some (.inl s.1), some (.inl s.2.1), z6] [] s.2.2)) (fun s hs => ?_) h0
  obtain ⟨x4, x5, σ⟩ := s
  intro z1 z6
  refine px_runH (h - 1) ckx_2013 [] [(74, kp_2013_74 (fun y0 y2 y3 y4 y5 y6 τ => y0 = x0 ∧ y2 = x2 ∧ y3 = x3 ∧ oW (f_2013_74 (px_tb C) τ y0 y2 y3 y4 y5 y6) (Sum.elim (fun s : Int32 × Int32 × px_M => ∀ (z1 : Option px_V) (z6 : Option px_V), px_W C k 48 [some (.inr (.inr (some x0))), z1, some (.inl x2), some (.inl x3), some (.inl s.1), some (.inl s.2.1), z6] [] s.2.2) (fun q => k (some (.inl q.1)) q.2)))), (114, kp_2013_114 (fun y0 y2 y3 y4 y5 y6 τ => y0 = x0 ∧ y2 = x2 ∧ y3 = x3 ∧ oW (f_2013_114 (px_tb C) τ y0 y2 y3 y4 y5 y6) (Sum.elim (fun s : Int32 × Int32 × px_M => ∀ (z1 : Option px_V) (z6 : Option px_V), px_W C k 48 [some (.inr (.inr (some x0))), z1, some (.inl x2), some (.inl x3), some (.inl s.1), some (.inl s.2.1), z6] [] s.2.2) (fun q => k (some (.inl q.1)) q.2)))), (213, kp_2013_213 (fun τ => oW (f_2013_213 (px_tb C) τ) (fun q => k (some (.inl q.1)) q.2)))] 80 7 (some .boolean) rfl rfl hC px_nosp (by omega) (px_cut1 (kq_2013_74 (fun y0 y2 y3 y4 y5 y6 τ hq => by obtain ⟨rfl, rfl, rfl, hq⟩ := hq; exact rl_2013_74 hn (by omega) hC  hq)) (px_cut1 (kq_2013_114 (fun y0 y2 y3 y4 y5 y6 τ hq => by obtain ⟨rfl, rfl, rfl, hq⟩ := hq; exact rl_2013_114 hn (by omega) hC  hq)) (px_cut1 (kq_2013_213 (fun τ hq => by exact rl_2013_213 hn (by omega) hC  hq)) px_nocut))) (fun G Jf hG hJf => ?_)
  replace hs : oW (F_2013_48 (px_tb C) x0 x2 x3 x4 x5 σ) _ := hs
  unfold F_2013_48 at hs
  by_cases hc0 : x3 ≤ x5
  · replace hs := oW_t hs hc0
    by_cases hc1 : x4 ≤ nI 0
    · replace hs := oW_t hs hc1
      simp only [↓hG, ↓hJf, ↓px_vc, ↓px_ex, ↓px_jp, ↓px_gi, ↓px_gl, ↓px_gr, ↓px_s1, ↓px_s2, ↓px_nl, ↓px_i1, ↓px_l1, ↓r1_s, ↓px_q1, ↓px_i2, ↓px_l2, ↓px_il, ↓px_d0, ↓px_d1, ↓px_d2, ↓px_pop, ↓px_sp, ↓px_rd, ↓px_rf, ↓pn_xf, ↓px_pt, ↓px_sw, ↓pn_SW, ↓px_ma, ↓reduceIte, Nat.reduceEqDiff, Nat.reduceAdd, Nat.reduceSub, ↓Option.toList_some, ↓Option.toList_none, ↓List.cons_append, ↓List.nil_append, ↓kI_s, ↓kJ_s, ↓kN_s, ↓kO_s, ↓kZ_s, ↓kE_s, ↓an_rfl, ↓bt1 n00, ↓bt2 n00, ↓bf1 n10, ↓bf2 n10, ↓an_sz0, ↓an_sz1, ↓an_sz2, ↓an_sz3, ↓an_sz4, ↓an_ri, ↓an_rb0, ↓an_rb1, ↓an_b0, ↓an_b1, true_and, ↓ai_0s, ↓al_0s, ↓av_0s, ↓aq_0s, ↓ai_1s, ↓al_1s, ↓av_1s, ↓aq_1s, ↓ai_2s, ↓al_2s, ↓av_2s, ↓aq_2s, ↓ai_3s, ↓al_3s, ↓av_3s, ↓aq_3s, ↓ai_4s, ↓al_4s, ↓av_4s, ↓aq_4s, ↓ai_5s, ↓al_5s, ↓av_5s, ↓aq_5s, ↓ai_6s, ↓al_6s, ↓av_6s, ↓aq_6s, ↓ai_7s, ↓al_7s, ↓av_7s, ↓aq_7s, ↓an_l7, ↓bkx_2013, ↓kp_2013_74, ↓kp_2013_114, ↓kp_2013_213, ↓bt1 hc0, ↓bt2 hc0, ↓bt1 hc1, ↓bt2 hc1]
      simp only [oW_map] at hs
      exact hs
    · replace hs := oW_f hs hc1
      obtain ⟨hc2, hs⟩ := oW_gx hs
      obtain ⟨n1, hc3, hs⟩ := oW_bx hs
      obtain ⟨t2, l3, hc4, hs⟩ := oW_ax hs
      obtain ⟨hc5, hs⟩ := oW_gx hs
      obtain ⟨hc6, hs⟩ := oW_gx hs
      by_cases hc7 : (px_av t2 σ n1 ((nI 0)).toNatClampNeg) = nI 0
      · replace hs := oW_t hs hc7
        simp only [↓hG, ↓hJf, ↓px_vc, ↓px_ex, ↓px_jp, ↓px_gi, ↓px_gl, ↓px_gr, ↓px_s1, ↓px_s2, ↓px_nl, ↓px_i1, ↓px_l1, ↓r1_s, ↓px_q1, ↓px_i2, ↓px_l2, ↓px_il, ↓px_d0, ↓px_d1, ↓px_d2, ↓px_pop, ↓px_sp, ↓px_rd, ↓px_rf, ↓pn_xf, ↓px_pt, ↓px_sw, ↓pn_SW, ↓px_ma, ↓reduceIte, Nat.reduceEqDiff, Nat.reduceAdd, Nat.reduceSub, ↓Option.toList_some, ↓Option.toList_none, ↓List.cons_append, ↓List.nil_append, ↓kI_s, ↓kJ_s, ↓kN_s, ↓kO_s, ↓kZ_s, ↓kE_s, ↓an_rfl, ↓bt1 n00, ↓bt2 n00, ↓bf1 n10, ↓bf2 n10, ↓an_sz0, ↓an_sz1, ↓an_sz2, ↓an_sz3, ↓an_sz4, ↓an_ri, ↓an_rb0, ↓an_rb1, ↓an_b0, ↓an_b1, true_and, ↓ai_0s, ↓al_0s, ↓av_0s, ↓aq_0s, ↓ai_1s, ↓al_1s, ↓av_1s, ↓aq_1s, ↓ai_2s, ↓al_2s, ↓av_2s, ↓aq_2s, ↓ai_3s, ↓al_3s, ↓av_3s, ↓aq_3s, ↓ai_4s, ↓al_4s, ↓av_4s, ↓aq_4s, ↓ai_5s, ↓al_5s, ↓av_5s, ↓aq_5s, ↓ai_6s, ↓al_6s, ↓av_6s, ↓aq_6s, ↓ai_7s, ↓al_7s, ↓av_7s, ↓aq_7s, ↓an_l7, ↓bkx_2013, ↓kp_2013_74, ↓kp_2013_114, ↓kp_2013_213, ↓bt1 hc0, ↓bt2 hc0, ↓bf1 hc1, ↓bf2 hc1, ↓an_t hc2, ↓an_rv hc2, ↓r1_e hc3, ↓av_0e hc3, ↓av_1e hc3, ↓av_2e hc3, ↓av_3e hc3, ↓ar_e hc4, ↓an_t hc5, ↓an_t hc6, ↓bt1 hc7, ↓bt2 hc7]
        simp only [oW_map] at hs
        exact hs
      · replace hs := oW_f hs hc7
        simp only [↓hG, ↓hJf, ↓px_vc, ↓px_ex, ↓px_jp, ↓px_gi, ↓px_gl, ↓px_gr, ↓px_s1, ↓px_s2, ↓px_nl, ↓px_i1, ↓px_l1, ↓r1_s, ↓px_q1, ↓px_i2, ↓px_l2, ↓px_il, ↓px_d0, ↓px_d1, ↓px_d2, ↓px_pop, ↓px_sp, ↓px_rd, ↓px_rf, ↓pn_xf, ↓px_pt, ↓px_sw, ↓pn_SW, ↓px_ma, ↓reduceIte, Nat.reduceEqDiff, Nat.reduceAdd, Nat.reduceSub, ↓Option.toList_some, ↓Option.toList_none, ↓List.cons_append, ↓List.nil_append, ↓kI_s, ↓kJ_s, ↓kN_s, ↓kO_s, ↓kZ_s, ↓kE_s, ↓an_rfl, ↓bt1 n00, ↓bt2 n00, ↓bf1 n10, ↓bf2 n10, ↓an_sz0, ↓an_sz1, ↓an_sz2, ↓an_sz3, ↓an_sz4, ↓an_ri, ↓an_rb0, ↓an_rb1, ↓an_b0, ↓an_b1, true_and, ↓ai_0s, ↓al_0s, ↓av_0s, ↓aq_0s, ↓ai_1s, ↓al_1s, ↓av_1s, ↓aq_1s, ↓ai_2s, ↓al_2s, ↓av_2s, ↓aq_2s, ↓ai_3s, ↓al_3s, ↓av_3s, ↓aq_3s, ↓ai_4s, ↓al_4s, ↓av_4s, ↓aq_4s, ↓ai_5s, ↓al_5s, ↓av_5s, ↓aq_5s, ↓ai_6s, ↓al_6s, ↓av_6s, ↓aq_6s, ↓ai_7s, ↓al_7s, ↓av_7s, ↓aq_7s, ↓an_l7, ↓bkx_2013, ↓kp_2013_74, ↓kp_2013_114, ↓kp_2013_213, ↓bt1 hc0, ↓bt2 hc0, ↓bf1 hc1, ↓bf2 hc1, ↓an_t hc2, ↓an_rv hc2, ↓r1_e hc3, ↓av_0e hc3, ↓av_1e hc3, ↓av_2e hc3, ↓av_3e hc3, ↓ar_e hc4, ↓an_t hc5, ↓an_t hc6, ↓bf1 hc7, ↓bf2 hc7]
        rw [oW_some] at hs
        exact hs
  · replace hs := oW_f hs hc0
    obtain ⟨hc1, hs⟩ := oW_gx hs
    obtain ⟨n4, hc2, hs⟩ := oW_bx hs
    obtain ⟨hc3, hs⟩ := oW_gx hs
    obtain ⟨n5, hc4, hs⟩ := oW_bx hs
    obtain ⟨t6, l7, hc5, hs⟩ := oW_ax hs
    obtain ⟨hc6, hs⟩ := oW_gx hs
    obtain ⟨hc7, hs⟩ := oW_gx hs
    by_cases hc8 : (nI 2000) ≤ (px_av t6 σ n5 (x5).toNatClampNeg)
    · replace hs := oW_t hs hc8
      simp only [↓hG, ↓hJf, ↓px_vc, ↓px_ex, ↓px_jp, ↓px_gi, ↓px_gl, ↓px_gr, ↓px_s1, ↓px_s2, ↓px_nl, ↓px_i1, ↓px_l1, ↓r1_s, ↓px_q1, ↓px_i2, ↓px_l2, ↓px_il, ↓px_d0, ↓px_d1, ↓px_d2, ↓px_pop, ↓px_sp, ↓px_rd, ↓px_rf, ↓pn_xf, ↓px_pt, ↓px_sw, ↓pn_SW, ↓px_ma, ↓reduceIte, Nat.reduceEqDiff, Nat.reduceAdd, Nat.reduceSub, ↓Option.toList_some, ↓Option.toList_none, ↓List.cons_append, ↓List.nil_append, ↓kI_s, ↓kJ_s, ↓kN_s, ↓kO_s, ↓kZ_s, ↓kE_s, ↓an_rfl, ↓bt1 n00, ↓bt2 n00, ↓bf1 n10, ↓bf2 n10, ↓an_sz0, ↓an_sz1, ↓an_sz2, ↓an_sz3, ↓an_sz4, ↓an_ri, ↓an_rb0, ↓an_rb1, ↓an_b0, ↓an_b1, true_and, ↓ai_0s, ↓al_0s, ↓av_0s, ↓aq_0s, ↓ai_1s, ↓al_1s, ↓av_1s, ↓aq_1s, ↓ai_2s, ↓al_2s, ↓av_2s, ↓aq_2s, ↓ai_3s, ↓al_3s, ↓av_3s, ↓aq_3s, ↓ai_4s, ↓al_4s, ↓av_4s, ↓aq_4s, ↓ai_5s, ↓al_5s, ↓av_5s, ↓aq_5s, ↓ai_6s, ↓al_6s, ↓av_6s, ↓aq_6s, ↓ai_7s, ↓al_7s, ↓av_7s, ↓aq_7s, ↓an_l7, ↓bkx_2013, ↓kp_2013_74, ↓kp_2013_114, ↓kp_2013_213, ↓bf1 hc0, ↓bf2 hc0, ↓an_t hc1, ↓an_rv hc1, ↓r1_e hc2, ↓av_0e hc2, ↓av_1e hc2, ↓av_2e hc2, ↓av_3e hc2, ↓an_t hc3, ↓an_rv hc3, ↓an_rvo hc2 hc3, ↓r1_e hc4, ↓av_0e hc4, ↓av_1e hc4, ↓av_2e hc4, ↓av_3e hc4, ↓ar_e hc5, ↓an_t hc6, ↓an_t hc7, ↓bt1 hc8, ↓bt2 hc8]
      exact hs
    · replace hs := oW_f hs hc8
      simp only [↓hG, ↓hJf, ↓px_vc, ↓px_ex, ↓px_jp, ↓px_gi, ↓px_gl, ↓px_gr, ↓px_s1, ↓px_s2, ↓px_nl, ↓px_i1, ↓px_l1, ↓r1_s, ↓px_q1, ↓px_i2, ↓px_l2, ↓px_il, ↓px_d0, ↓px_d1, ↓px_d2, ↓px_pop, ↓px_sp, ↓px_rd, ↓px_rf, ↓pn_xf, ↓px_pt, ↓px_sw, ↓pn_SW, ↓px_ma, ↓reduceIte, Nat.reduceEqDiff, Nat.reduceAdd, Nat.reduceSub, ↓Option.toList_some, ↓Option.toList_none, ↓List.cons_append, ↓List.nil_append, ↓kI_s, ↓kJ_s, ↓kN_s, ↓kO_s, ↓kZ_s, ↓kE_s, ↓an_rfl, ↓bt1 n00, ↓bt2 n00, ↓bf1 n10, ↓bf2 n10, ↓an_sz0, ↓an_sz1, ↓an_sz2, ↓an_sz3, ↓an_sz4, ↓an_ri, ↓an_rb0, ↓an_rb1, ↓an_b0, ↓an_b1, true_and, ↓ai_0s, ↓al_0s, ↓av_0s, ↓aq_0s, ↓ai_1s, ↓al_1s, ↓av_1s, ↓aq_1s, ↓ai_2s, ↓al_2s, ↓av_2s, ↓aq_2s, ↓ai_3s, ↓al_3s, ↓av_3s, ↓aq_3s, ↓ai_4s, ↓al_4s, ↓av_4s, ↓aq_4s, ↓ai_5s, ↓al_5s, ↓av_5s, ↓aq_5s, ↓ai_6s, ↓al_6s, ↓av_6s, ↓aq_6s, ↓ai_7s, ↓al_7s, ↓av_7s, ↓aq_7s, ↓an_l7, ↓bkx_2013, ↓kp_2013_74, ↓kp_2013_114, ↓kp_2013_213, ↓bf1 hc0, ↓bf2 hc0, ↓an_t hc1, ↓an_rv hc1, ↓r1_e hc2, ↓av_0e hc2, ↓av_1e hc2, ↓av_2e hc2, ↓av_3e hc2, ↓an_t hc3, ↓an_rv hc3, ↓an_rvo hc2 hc3, ↓r1_e hc4, ↓av_0e hc4, ↓av_1e hc4, ↓av_2e hc4, ↓av_3e hc4, ↓ar_e hc5, ↓an_t hc6, ↓an_t hc7, ↓bf1 hc8, ↓bf2 hc8]
      exact hs
set_option maxHeartbeats 4000000 in
set_option maxRecDepth 100000 in
theorem rl_2013_30 {C : px_C} (hn : px_nd (px_tb C)) {h : Nat} (hh : 3 ≤ h) (hC : px_ok C pn_i2013 h) {k : Option px_V → px_M → Prop} {x0 : Nat} {x1 : Int32} {x2 : Int32} {x3 : Int32} {σ : px_M} (hs : oW (f_2013_30 (px_tb C) σ x0 x1 x2 x3) (fun q => k (some (.inl q.1)) q.2)) : ∀ (z4 : Option px_V) (z5 : Option px_V) (z6 : Option px_V), px_W C k 30 [some (.inr (.inr (some x0))), some (.inl x1), some (.inl x2), some (.inl x3), z4, z5, z6] [] σ := by
  intro z4 z5 z6
  refine px_runH (h - 1) ckx_2013 [] [(48, kp_2013_48 (fun y0 y2 y3 y4 y5 τ => oW (f_2013_48 (px_tb C) y0 y2 y3 y4 y5 τ) (fun q => k (some (.inl q.1)) q.2)))] 80 7 (some .boolean) rfl rfl hC px_nosp (by omega) (px_cut1 (kq_2013_48 (fun y0 y2 y3 y4 y5 τ hq => by exact rl_2013_48 hn (by omega) hC (y4, y5, τ) hq)) px_nocut) (fun G Jf hG hJf => ?_)
  unfold f_2013_30 at hs
  obtain ⟨hc0, hs⟩ := oW_gx hs
  obtain ⟨n1, hc1, hs⟩ := oW_bx hs
  obtain ⟨hc2, hs⟩ := oW_gx hs
  obtain ⟨n2, hc3, hs⟩ := oW_bx hs
  obtain ⟨t3, l4, hc4, hs⟩ := oW_ax hs
  obtain ⟨hc5, hs⟩ := oW_gx hs
  obtain ⟨hc6, hs⟩ := oW_gx hs
  simp only [↓hG, ↓hJf, ↓px_vc, ↓px_ex, ↓px_jp, ↓px_gi, ↓px_gl, ↓px_gr, ↓px_s1, ↓px_s2, ↓px_nl, ↓px_i1, ↓px_l1, ↓r1_s, ↓px_q1, ↓px_i2, ↓px_l2, ↓px_il, ↓px_d0, ↓px_d1, ↓px_d2, ↓px_pop, ↓px_sp, ↓px_rd, ↓px_rf, ↓pn_xf, ↓px_pt, ↓px_sw, ↓pn_SW, ↓px_ma, ↓reduceIte, Nat.reduceEqDiff, Nat.reduceAdd, Nat.reduceSub, ↓Option.toList_some, ↓Option.toList_none, ↓List.cons_append, ↓List.nil_append, ↓kI_s, ↓kJ_s, ↓kN_s, ↓kO_s, ↓kZ_s, ↓kE_s, ↓an_rfl, ↓bt1 n00, ↓bt2 n00, ↓bf1 n10, ↓bf2 n10, ↓an_sz0, ↓an_sz1, ↓an_sz2, ↓an_sz3, ↓an_sz4, ↓an_ri, ↓an_rb0, ↓an_rb1, ↓an_b0, ↓an_b1, true_and, ↓ai_0s, ↓al_0s, ↓av_0s, ↓aq_0s, ↓ai_1s, ↓al_1s, ↓av_1s, ↓aq_1s, ↓ai_2s, ↓al_2s, ↓av_2s, ↓aq_2s, ↓ai_3s, ↓al_3s, ↓av_3s, ↓aq_3s, ↓ai_4s, ↓al_4s, ↓av_4s, ↓aq_4s, ↓ai_5s, ↓al_5s, ↓av_5s, ↓aq_5s, ↓ai_6s, ↓al_6s, ↓av_6s, ↓aq_6s, ↓ai_7s, ↓al_7s, ↓av_7s, ↓aq_7s, ↓an_l7, ↓bkx_2013, ↓kp_2013_48, ↓an_t hc0, ↓an_rv hc0, ↓r1_e hc1, ↓av_0e hc1, ↓av_1e hc1, ↓av_2e hc1, ↓av_3e hc1, ↓an_t hc2, ↓an_rv hc2, ↓an_rvo hc1 hc2, ↓r1_e hc3, ↓av_0e hc3, ↓av_1e hc3, ↓av_2e hc3, ↓av_3e hc3, ↓ar_e hc4, ↓an_t hc5, ↓an_t hc6]
  exact hs
set_option maxHeartbeats 4000000 in
set_option maxRecDepth 100000 in
theorem rl_2013_10 {C : px_C} (hn : px_nd (px_tb C)) {h : Nat} (hh : 3 ≤ h) (hC : px_ok C pn_i2013 h) {k : Option px_V → px_M → Prop} {σ : px_M} (hs : oW (f_2013_10 (px_tb C) σ) (fun q => k (some (.inl q.1)) q.2)) : ∀ (z0 : Option px_V) (z1 : Option px_V) (z2 : Option px_V) (z3 : Option px_V) (z4 : Option px_V) (z5 : Option px_V) (z6 : Option px_V), px_W C k 10 [z0, z1, z2, z3, z4, z5, z6] [] σ := by
  intro z0 z1 z2 z3 z4 z5 z6
  refine px_runH (h - 1) ckx_2013 [] [] 80 7 (some .boolean) rfl rfl hC px_nosp (by omega) px_nocut (fun G Jf hG hJf => ?_)
  unfold f_2013_10 at hs
  simp only [↓hG, ↓hJf, ↓px_vc, ↓px_ex, ↓px_jp, ↓px_gi, ↓px_gl, ↓px_gr, ↓px_s1, ↓px_s2, ↓px_nl, ↓px_i1, ↓px_l1, ↓r1_s, ↓px_q1, ↓px_i2, ↓px_l2, ↓px_il, ↓px_d0, ↓px_d1, ↓px_d2, ↓px_pop, ↓px_sp, ↓px_rd, ↓px_rf, ↓pn_xf, ↓px_pt, ↓px_sw, ↓pn_SW, ↓px_ma, ↓reduceIte, Nat.reduceEqDiff, Nat.reduceAdd, Nat.reduceSub, ↓Option.toList_some, ↓Option.toList_none, ↓List.cons_append, ↓List.nil_append, ↓kI_s, ↓kJ_s, ↓kN_s, ↓kO_s, ↓kZ_s, ↓kE_s, ↓an_rfl, ↓bt1 n00, ↓bt2 n00, ↓bf1 n10, ↓bf2 n10, ↓an_sz0, ↓an_sz1, ↓an_sz2, ↓an_sz3, ↓an_sz4, ↓an_ri, ↓an_rb0, ↓an_rb1, ↓an_b0, ↓an_b1, true_and, ↓ai_0s, ↓al_0s, ↓av_0s, ↓aq_0s, ↓ai_1s, ↓al_1s, ↓av_1s, ↓aq_1s, ↓ai_2s, ↓al_2s, ↓av_2s, ↓aq_2s, ↓ai_3s, ↓al_3s, ↓av_3s, ↓aq_3s, ↓ai_4s, ↓al_4s, ↓av_4s, ↓aq_4s, ↓ai_5s, ↓al_5s, ↓av_5s, ↓aq_5s, ↓ai_6s, ↓al_6s, ↓av_6s, ↓aq_6s, ↓ai_7s, ↓al_7s, ↓av_7s, ↓aq_7s, ↓an_l7, ↓bkx_2013]
  rw [oW_some] at hs
  exact hs
set_option maxHeartbeats 4000000 in
set_option maxRecDepth 100000 in
theorem mf_2013 {tab : px_T} (hn : px_nd tab) {h : Nat} (hh : 3 ≤ h) : px_Ok tab pn_i2013 h (Sg_2013 (f_2013 tab)) := by
  refine px_mth hn (by decide +kernel) (fun av σ k hS => ?_) (fun C hT hC av σ k hS => ?_)
  · obtain ⟨x0, av0, e0, h0⟩ := av_0p hS
    obtain ⟨x1, av1, e1, h1⟩ := ai_1p h0
    obtain ⟨x2, av2, e2, h2⟩ := ai_2p h1
    obtain ⟨ez, hs⟩ := h2
    subst ez
    subst e2
    subst e1
    subst e0
    exact Nat.le_of_ble_eq_true rfl
  · obtain ⟨x0, av0, e0, h0⟩ := av_0p hS
    obtain ⟨x1, av1, e1, h1⟩ := ai_1p h0
    obtain ⟨x2, av2, e2, h2⟩ := ai_2p h1
    obtain ⟨ez, hs⟩ := h2
    subst ez
    subst e2
    subst e1
    subst e0
    subst hT
    show px_W C k 0 [some (.inr (.inr (some x0))), some (.inl x1), some (.inl x2), none, none, none, none] [] σ
    refine px_runH (h - 1) ckx_2013 [] [(10, kp_2013_10 (fun τ => oW (f_2013_10 (px_tb C) τ) (fun q => k (some (.inl q.1)) q.2))), (30, kp_2013_30 (fun y0 y1 y2 y3 τ => oW (f_2013_30 (px_tb C) τ y0 y1 y2 y3) (fun q => k (some (.inl q.1)) q.2)))] 80 7 (some .boolean) rfl rfl hC px_nosp (by omega) (px_cut1 (kq_2013_10 (fun τ hq => by exact rl_2013_10 hn (by omega) hC  hq)) (px_cut1 (kq_2013_30 (fun y0 y1 y2 y3 τ hq => by exact rl_2013_30 hn (by omega) hC  hq)) px_nocut)) (fun G Jf hG hJf => ?_)
    unfold f_2013 at hs
    by_cases hc0 : x1 < nI 0
    · replace hs := oW_t hs hc0
      simp only [↓hG, ↓hJf, ↓px_vc, ↓px_ex, ↓px_jp, ↓px_gi, ↓px_gl, ↓px_gr, ↓px_s1, ↓px_s2, ↓px_nl, ↓px_i1, ↓px_l1, ↓r1_s, ↓px_q1, ↓px_i2, ↓px_l2, ↓px_il, ↓px_d0, ↓px_d1, ↓px_d2, ↓px_pop, ↓px_sp, ↓px_rd, ↓px_rf, ↓pn_xf, ↓px_pt, ↓px_sw, ↓pn_SW, ↓px_ma, ↓reduceIte, Nat.reduceEqDiff, Nat.reduceAdd, Nat.reduceSub, ↓Option.toList_some, ↓Option.toList_none, ↓List.cons_append, ↓List.nil_append, ↓kI_s, ↓kJ_s, ↓kN_s, ↓kO_s, ↓kZ_s, ↓kE_s, ↓an_rfl, ↓bt1 n00, ↓bt2 n00, ↓bf1 n10, ↓bf2 n10, ↓an_sz0, ↓an_sz1, ↓an_sz2, ↓an_sz3, ↓an_sz4, ↓an_ri, ↓an_rb0, ↓an_rb1, ↓an_b0, ↓an_b1, true_and, ↓ai_0s, ↓al_0s, ↓av_0s, ↓aq_0s, ↓ai_1s, ↓al_1s, ↓av_1s, ↓aq_1s, ↓ai_2s, ↓al_2s, ↓av_2s, ↓aq_2s, ↓ai_3s, ↓al_3s, ↓av_3s, ↓aq_3s, ↓ai_4s, ↓al_4s, ↓av_4s, ↓aq_4s, ↓ai_5s, ↓al_5s, ↓av_5s, ↓aq_5s, ↓ai_6s, ↓al_6s, ↓av_6s, ↓aq_6s, ↓ai_7s, ↓al_7s, ↓av_7s, ↓aq_7s, ↓an_l7, ↓bkx_2013, ↓kp_2013_10, ↓kp_2013_30, ↓bt1 hc0, ↓bt2 hc0]
      exact hs
    · replace hs := oW_f hs hc0
      by_cases hc1 : x1 < (nI 6)
      · replace hs := oW_t hs hc1
        obtain ⟨hc2, hs⟩ := oW_gx hs
        obtain ⟨n1, hc3, hs⟩ := oW_bx hs
        obtain ⟨hc4, hs⟩ := oW_gx hs
        obtain ⟨n2, hc5, hs⟩ := oW_bx hs
        obtain ⟨t3, l4, hc6, hs⟩ := oW_ax hs
        obtain ⟨hc7, hs⟩ := oW_gx hs
        obtain ⟨hc8, hs⟩ := oW_gx hs
        simp only [↓hG, ↓hJf, ↓px_vc, ↓px_ex, ↓px_jp, ↓px_gi, ↓px_gl, ↓px_gr, ↓px_s1, ↓px_s2, ↓px_nl, ↓px_i1, ↓px_l1, ↓r1_s, ↓px_q1, ↓px_i2, ↓px_l2, ↓px_il, ↓px_d0, ↓px_d1, ↓px_d2, ↓px_pop, ↓px_sp, ↓px_rd, ↓px_rf, ↓pn_xf, ↓px_pt, ↓px_sw, ↓pn_SW, ↓px_ma, ↓reduceIte, Nat.reduceEqDiff, Nat.reduceAdd, Nat.reduceSub, ↓Option.toList_some, ↓Option.toList_none, ↓List.cons_append, ↓List.nil_append, ↓kI_s, ↓kJ_s, ↓kN_s, ↓kO_s, ↓kZ_s, ↓kE_s, ↓an_rfl, ↓bt1 n00, ↓bt2 n00, ↓bf1 n10, ↓bf2 n10, ↓an_sz0, ↓an_sz1, ↓an_sz2, ↓an_sz3, ↓an_sz4, ↓an_ri, ↓an_rb0, ↓an_rb1, ↓an_b0, ↓an_b1, true_and, ↓ai_0s, ↓al_0s, ↓av_0s, ↓aq_0s, ↓ai_1s, ↓al_1s, ↓av_1s, ↓aq_1s, ↓ai_2s, ↓al_2s, ↓av_2s, ↓aq_2s, ↓ai_3s, ↓al_3s, ↓av_3s, ↓aq_3s, ↓ai_4s, ↓al_4s, ↓av_4s, ↓aq_4s, ↓ai_5s, ↓al_5s, ↓av_5s, ↓aq_5s, ↓ai_6s, ↓al_6s, ↓av_6s, ↓aq_6s, ↓ai_7s, ↓al_7s, ↓av_7s, ↓aq_7s, ↓an_l7, ↓bkx_2013, ↓kp_2013_10, ↓kp_2013_30, ↓bf1 hc0, ↓bf2 hc0, ↓bt1 hc1, ↓bt2 hc1, ↓an_t hc2, ↓an_rv hc2, ↓r1_e hc3, ↓av_0e hc3, ↓av_1e hc3, ↓av_2e hc3, ↓av_3e hc3, ↓an_t hc4, ↓an_rv hc4, ↓an_rvo hc3 hc4, ↓r1_e hc5, ↓av_0e hc5, ↓av_1e hc5, ↓av_2e hc5, ↓av_3e hc5, ↓ar_e hc6, ↓an_t hc7, ↓an_t hc8]
        exact hs
      · replace hs := oW_f hs hc1
        simp only [↓hG, ↓hJf, ↓px_vc, ↓px_ex, ↓px_jp, ↓px_gi, ↓px_gl, ↓px_gr, ↓px_s1, ↓px_s2, ↓px_nl, ↓px_i1, ↓px_l1, ↓r1_s, ↓px_q1, ↓px_i2, ↓px_l2, ↓px_il, ↓px_d0, ↓px_d1, ↓px_d2, ↓px_pop, ↓px_sp, ↓px_rd, ↓px_rf, ↓pn_xf, ↓px_pt, ↓px_sw, ↓pn_SW, ↓px_ma, ↓reduceIte, Nat.reduceEqDiff, Nat.reduceAdd, Nat.reduceSub, ↓Option.toList_some, ↓Option.toList_none, ↓List.cons_append, ↓List.nil_append, ↓kI_s, ↓kJ_s, ↓kN_s, ↓kO_s, ↓kZ_s, ↓kE_s, ↓an_rfl, ↓bt1 n00, ↓bt2 n00, ↓bf1 n10, ↓bf2 n10, ↓an_sz0, ↓an_sz1, ↓an_sz2, ↓an_sz3, ↓an_sz4, ↓an_ri, ↓an_rb0, ↓an_rb1, ↓an_b0, ↓an_b1, true_and, ↓ai_0s, ↓al_0s, ↓av_0s, ↓aq_0s, ↓ai_1s, ↓al_1s, ↓av_1s, ↓aq_1s, ↓ai_2s, ↓al_2s, ↓av_2s, ↓aq_2s, ↓ai_3s, ↓al_3s, ↓av_3s, ↓aq_3s, ↓ai_4s, ↓al_4s, ↓av_4s, ↓aq_4s, ↓ai_5s, ↓al_5s, ↓av_5s, ↓aq_5s, ↓ai_6s, ↓al_6s, ↓av_6s, ↓aq_6s, ↓ai_7s, ↓al_7s, ↓av_7s, ↓aq_7s, ↓an_l7, ↓bkx_2013, ↓kp_2013_10, ↓kp_2013_30, ↓bf1 hc0, ↓bf2 hc0, ↓bf1 hc1, ↓bf2 hc1]
        exact hs
