/-- NoThree$Reader.read(I)V -/
def bk_9004 : Nat → Nat × List px_E := fun pc => match pc with
  | 0 => (25, [(0, .aload_n 0, 1, 0, 0, 0, .inl 0), (1, .iload_n 1, 1, 1, 0, 0, .inl 0), (2, .iconst 0, 1, 0, 0, 0, .inl (nI 0)), (3, .invokestatic 48, 3, 20000, 2, 1, .inl 0), (6, .sipush 900, 3, 0, 0, 0, .inl (nI 900)), (9, .invokestatic 54, 3, 20001, 2, 2, .inl 0), (12, .putfield 39, 3, 9, 7, 0, .inl 0), (15, .aload_n 0, 1, 0, 0, 0, .inl 0), (16, .iconst 0, 1, 0, 0, 0, .inl (nI 0)), (17, .putfield 9, 3, 9, 0, 0, .inl 0), (20, .aload_n 0, 1, 0, 0, 0, .inl 0), (21, .iconst 0, 1, 0, 0, 0, .inl (nI 0)), (22, .putfield 15, 3, 9, 1, 0, .inl 0)])
  | 25 => (56, [(25, .aload_n 0, 1, 0, 0, 0, .inl 0), (26, .iconst (-1), 1, 0, 0, 0, .inl (-1)), (27, .putfield 18, 3, 9, 2, 0, .inl 0), (30, .aload_n 0, 1, 0, 0, 0, .inl 0), (31, .getfield 24, 3, 9, 3, 2, .inl 0), (34, .invokevirtual 57, 3, 1003, 1, 1, .inl 0), (37, .aload_n 0, 1, 0, 0, 0, .inl 0), (38, .invokevirtual 60, 3, 9005, 1, 9, .inl 0), (41, .aload_n 0, 1, 0, 0, 0, .inl 0), (42, .iconst 0, 1, 0, 0, 0, .inl (nI 0)), (43, .putfield 42, 3, 9, 8, 0, .inl 0), (46, .aload_n 0, 1, 0, 0, 0, .inl 0), (47, .aload_n 0, 1, 0, 0, 0, .inl 0), (48, .getfield 32, 3, 9, 5, 2, .inl 0), (51, .iconst 0, 1, 0, 0, 0, .inl (nI 0)), (52, .iaload, 1, 0, 0, 0, .inl 0), (53, .putfield 45, 3, 9, 9, 0, .inl 0)])
  | 56 => (58, [(56, .iconst 0, 1, 0, 0, 0, .inl (nI 0)), (57, .istore_n 2, 1, 2, 0, 0, .inl 0)])
  | 58 => (120, [(58, .iload_n 2, 1, 2, 0, 0, .inl 0), (59, .sipush 900, 3, 0, 0, 0, .inl (nI 900)), (62, .if_icmp .ge 132, 3, 194, 0, 0, .inl 0), (65, .aload_n 0, 1, 0, 0, 0, .inl 0), (66, .getfield 45, 3, 9, 9, 0, .inl 0), (69, .sipush 3005, 3, 0, 0, 0, .inl (nI 3005)), (72, .if_icmp .eq 122, 3, 194, 0, 0, .inl 0), (75, .aload_n 0, 1, 0, 0, 0, .inl 0), (76, .getfield 45, 3, 9, 9, 0, .inl 0), (79, .lookupswitch 73 #[(1004, 41), (3000, 49), (3001, 57), (3002, 65)], 41, 6, 0, 0, .inl 0)])
  | 120 => (128, [(120, .aload_n 0, 1, 0, 0, 0, .inl 0), (121, .invokevirtual 63, 3, 9021, 1, 9, .inl 0), (124, .istore_n 3, 1, 3, 0, 0, .inl 0), (125, .goto 33, 3, 158, 0, 0, .inl 0)])
  | 128 => (136, [(128, .aload_n 0, 1, 0, 0, 0, .inl 0), (129, .invokevirtual 67, 3, 9022, 1, 9, .inl 0), (132, .istore_n 3, 1, 3, 0, 0, .inl 0), (133, .goto 25, 3, 158, 0, 0, .inl 0)])
  | 136 => (144, [(136, .aload_n 0, 1, 0, 0, 0, .inl 0), (137, .invokevirtual 70, 3, 9023, 1, 9, .inl 0), (140, .istore_n 3, 1, 3, 0, 0, .inl 0), (141, .goto 17, 3, 158, 0, 0, .inl 0)])
  | 144 => (152, [(144, .aload_n 0, 1, 0, 0, 0, .inl 0), (145, .invokevirtual 73, 3, 9024, 1, 9, .inl 0), (148, .istore_n 3, 1, 3, 0, 0, .inl 0), (149, .goto 9, 3, 158, 0, 0, .inl 0)])
  | 152 => (158, [(152, .aload_n 0, 1, 0, 0, 0, .inl 0), (153, .iconst 2, 1, 0, 0, 0, .inl (nI 2)), (154, .invokevirtual 76, 3, 9018, 2, 9, .inl 0), (157, .istore_n 3, 1, 3, 0, 0, .inl 0)])
  | 158 => (175, [(158, .iload_n 3, 1, 3, 0, 0, .inl 0), (159, .ifCond .eq 35, 3, 194, 0, 0, .inl 0), (162, .aload_n 0, 1, 0, 0, 0, .inl 0), (163, .sipush 4059, 3, 0, 0, 0, .inl (nI 4059)), (166, .invokevirtual 80, 3, 9019, 2, 9, .inl 0), (169, .ifCond .ne 6, 3, 175, 0, 0, .inl 0), (172, .goto 22, 3, 194, 0, 0, .inl 0)])
  | 175 => (194, [(175, .aload_n 0, 1, 0, 0, 0, .inl 0), (176, .getfield 24, 3, 9, 3, 2, .inl 0), (179, .dup, 1, 0, 0, 0, .inl 0), (180, .getfield 83, 3, 1, 2, 0, .inl 0), (183, .iconst 1, 1, 0, 0, 0, .inl (nI 1)), (184, .iadd, 1, 0, 0, 0, .inl 0), (185, .putfield 83, 3, 1, 2, 0, .inl 0), (188, .iinc 2 1, 3, 2, 0, 0, .inl (nI 1)), (191, .goto (-133), 3, 58, 0, 0, .inl 0)])
  | 194 => (195, [(194, .return_, 1, 0, 0, 0, .inl 0)])
  | n => (n, [])
theorem ck_9004 : ∀ pc, px_cks pn_i9004 (bk_9004 pc).1 pc (bk_9004 pc).2 = true := by
  intro pc
  unfold bk_9004
  split <;> first | decide +kernel | simp [px_cks]
/-- NoThree$Reader.findTokens()V -/
def bk_9005 : Nat → Nat × List px_E := fun pc => match pc with
  | 0 => (6, [(0, .iconst 0, 1, 0, 0, 0, .inl (nI 0)), (1, .istore_n 1, 1, 1, 0, 0, .inl 0), (2, .iconst 0, 1, 0, 0, 0, .inl (nI 0)), (3, .istore_n 2, 1, 2, 0, 0, .inl 0), (4, .iconst 0, 1, 0, 0, 0, .inl (nI 0)), (5, .istore_n 3, 1, 3, 0, 0, .inl 0)])
  | 6 => (35, [(6, .iload_n 3, 1, 3, 0, 0, .inl 0), (7, .sipush 900, 3, 0, 0, 0, .inl (nI 900)), (10, .if_icmp .ge 64, 3, 74, 0, 0, .inl 0), (13, .iload_n 2, 1, 2, 0, 0, .inl 0), (14, .aload_n 0, 1, 0, 0, 0, .inl 0), (15, .getfield 39, 3, 9, 7, 0, .inl 0), (18, .if_icmp .ge 56, 3, 74, 0, 0, .inl 0), (21, .aload_n 0, 1, 0, 0, 0, .inl 0), (22, .iload_n 2, 1, 2, 0, 0, .inl 0), (23, .invokevirtual 86, 3, 9007, 2, 9, .inl 0), (26, .ifCond .eq 9, 3, 35, 0, 0, .inl 0), (29, .iinc 2 1, 3, 2, 0, 0, .inl (nI 1)), (32, .goto 36, 3, 68, 0, 0, .inl 0)])
  | 35 => (42, [(35, .aload_n 0, 1, 0, 0, 0, .inl 0), (36, .iload_n 2, 1, 2, 0, 0, .inl 0), (37, .invokevirtual 89, 3, 9010, 2, 9, .inl 0), (40, .istore 4, 2, 4, 0, 0, .inl 0)])
  | 42 => (68, [(42, .aload_n 0, 1, 0, 0, 0, .inl 0), (43, .getfield 36, 3, 9, 6, 2, .inl 0), (46, .iload_n 1, 1, 1, 0, 0, .inl 0), (47, .iload_n 2, 1, 2, 0, 0, .inl 0), (48, .iastore, 1, 0, 0, 0, .inl 0), (49, .aload_n 0, 1, 0, 0, 0, .inl 0), (50, .getfield 32, 3, 9, 5, 2, .inl 0), (53, .iload_n 1, 1, 1, 0, 0, .inl 0), (54, .aload_n 0, 1, 0, 0, 0, .inl 0), (55, .iload_n 2, 1, 2, 0, 0, .inl 0), (56, .iload 4, 2, 4, 0, 0, .inl 0), (58, .invokevirtual 93, 3, 9011, 3, 9, .inl 0), (61, .iastore, 1, 0, 0, 0, .inl 0), (62, .iinc 1 1, 3, 1, 0, 0, .inl (nI 1)), (65, .iload 4, 2, 4, 0, 0, .inl 0), (67, .istore_n 2, 1, 2, 0, 0, .inl 0)])
  | 68 => (74, [(68, .iinc 3 1, 3, 3, 0, 0, .inl (nI 1)), (71, .goto (-65), 3, 6, 0, 0, .inl 0)])
  | 74 => (94, [(74, .aload_n 0, 1, 0, 0, 0, .inl 0), (75, .getfield 36, 3, 9, 6, 2, .inl 0), (78, .iload_n 1, 1, 1, 0, 0, .inl 0), (79, .aload_n 0, 1, 0, 0, 0, .inl 0), (80, .getfield 39, 3, 9, 7, 0, .inl 0), (83, .iastore, 1, 0, 0, 0, .inl 0), (84, .aload_n 0, 1, 0, 0, 0, .inl 0), (85, .getfield 32, 3, 9, 5, 2, .inl 0), (88, .iload_n 1, 1, 1, 0, 0, .inl 0), (89, .sipush 3005, 3, 0, 0, 0, .inl (nI 3005)), (92, .iastore, 1, 0, 0, 0, .inl 0), (93, .return_, 1, 0, 0, 0, .inl 0)])
  | n => (n, [])
theorem ck_9005 : ∀ pc, px_cks pn_i9005 (bk_9005 pc).1 pc (bk_9005 pc).2 = true := by
  intro pc
  unfold bk_9005
  split <;> first | decide +kernel | simp [px_cks]
/-- NoThree$Reader.byteAt(I)I -/
def bk_9006 : Nat → Nat × List px_E := fun pc => match pc with
  | 0 => (21, [(0, .iload_n 1, 1, 1, 0, 0, .inl 0), (1, .ifCond .lt 20, 3, 21, 0, 0, .inl 0), (4, .iload_n 1, 1, 1, 0, 0, .inl 0), (5, .aload_n 0, 1, 0, 0, 0, .inl 0), (6, .getfield 39, 3, 9, 7, 0, .inl 0), (9, .if_icmp .ge 12, 3, 21, 0, 0, .inl 0), (12, .aload_n 0, 1, 0, 0, 0, .inl 0), (13, .getfield 28, 3, 9, 4, 2, .inl 0), (16, .iload_n 1, 1, 1, 0, 0, .inl 0), (17, .baload, 1, 0, 0, 0, .inl 0), (18, .goto 4, 3, 22, 0, 0, .inl 0)])
  | 21 => (22, [(21, .iconst 0, 1, 0, 0, 0, .inl (nI 0))])
  | 22 => (23, [(22, .ireturn, 1, 0, 0, 0, .inl 0)])
  | n => (n, [])
theorem ck_9006 : ∀ pc, px_cks pn_i9006 (bk_9006 pc).1 pc (bk_9006 pc).2 = true := by
  intro pc
  unfold bk_9006
  split <;> first | decide +kernel | simp [px_cks]
/-- NoThree$Reader.isBlank(I)Z -/
def bk_9007 : Nat → Nat × List px_E := fun pc => match pc with
  | 0 => (20, [(0, .aload_n 0, 1, 0, 0, 0, .inl 0), (1, .iload_n 1, 1, 1, 0, 0, .inl 0), (2, .invokevirtual 96, 3, 9006, 2, 9, .inl 0), (5, .bipush 10, 2, 0, 0, 0, .inl (nI 10)), (7, .if_icmp .eq 13, 3, 20, 0, 0, .inl 0), (10, .aload_n 0, 1, 0, 0, 0, .inl 0), (11, .iload_n 1, 1, 1, 0, 0, .inl 0), (12, .invokevirtual 96, 3, 9006, 2, 9, .inl 0), (15, .bipush 32, 2, 0, 0, 0, .inl (nI 32)), (17, .if_icmp .ne 7, 3, 24, 0, 0, .inl 0)])
  | 20 => (24, [(20, .iconst 1, 1, 0, 0, 0, .inl (nI 1)), (21, .goto 4, 3, 25, 0, 0, .inl 0)])
  | 24 => (25, [(24, .iconst 0, 1, 0, 0, 0, .inl (nI 0))])
  | 25 => (26, [(25, .ireturn, 1, 0, 0, 0, .inl 0)])
  | n => (n, [])
theorem ck_9007 : ∀ pc, px_cks pn_i9007 (bk_9007 pc).1 pc (bk_9007 pc).2 = true := by
  intro pc
  unfold bk_9007
  split <;> first | decide +kernel | simp [px_cks]
/-- NoThree$Reader.isLetter(I)Z -/
def bk_9008 : Nat → Nat × List px_E := fun pc => match pc with
  | 0 => (24, [(0, .aload_n 0, 1, 0, 0, 0, .inl 0), (1, .iload_n 1, 1, 1, 0, 0, .inl 0), (2, .invokevirtual 96, 3, 9006, 2, 9, .inl 0), (5, .bipush 97, 2, 0, 0, 0, .inl (nI 97)), (7, .if_icmp .lt 17, 3, 24, 0, 0, .inl 0), (10, .aload_n 0, 1, 0, 0, 0, .inl 0), (11, .iload_n 1, 1, 1, 0, 0, .inl 0), (12, .invokevirtual 96, 3, 9006, 2, 9, .inl 0), (15, .bipush 122, 2, 0, 0, 0, .inl (nI 122)), (17, .if_icmp .gt 7, 3, 24, 0, 0, .inl 0), (20, .iconst 1, 1, 0, 0, 0, .inl (nI 1)), (21, .goto 4, 3, 25, 0, 0, .inl 0)])
  | 24 => (25, [(24, .iconst 0, 1, 0, 0, 0, .inl (nI 0))])
  | 25 => (26, [(25, .ireturn, 1, 0, 0, 0, .inl 0)])
  | n => (n, [])
theorem ck_9008 : ∀ pc, px_cks pn_i9008 (bk_9008 pc).1 pc (bk_9008 pc).2 = true := by
  intro pc
  unfold bk_9008
  split <;> first | decide +kernel | simp [px_cks]
/-- NoThree$Reader.isDigit(I)Z -/
def bk_9009 : Nat → Nat × List px_E := fun pc => match pc with
  | 0 => (24, [(0, .aload_n 0, 1, 0, 0, 0, .inl 0), (1, .iload_n 1, 1, 1, 0, 0, .inl 0), (2, .invokevirtual 96, 3, 9006, 2, 9, .inl 0), (5, .bipush 48, 2, 0, 0, 0, .inl (nI 48)), (7, .if_icmp .lt 17, 3, 24, 0, 0, .inl 0), (10, .aload_n 0, 1, 0, 0, 0, .inl 0), (11, .iload_n 1, 1, 1, 0, 0, .inl 0), (12, .invokevirtual 96, 3, 9006, 2, 9, .inl 0), (15, .bipush 57, 2, 0, 0, 0, .inl (nI 57)), (17, .if_icmp .gt 7, 3, 24, 0, 0, .inl 0), (20, .iconst 1, 1, 0, 0, 0, .inl (nI 1)), (21, .goto 4, 3, 25, 0, 0, .inl 0)])
  | 24 => (25, [(24, .iconst 0, 1, 0, 0, 0, .inl (nI 0))])
  | 25 => (26, [(25, .ireturn, 1, 0, 0, 0, .inl 0)])
  | n => (n, [])
theorem ck_9009 : ∀ pc, px_cks pn_i9009 (bk_9009 pc).1 pc (bk_9009 pc).2 = true := by
  intro pc
  unfold bk_9009
  split <;> first | decide +kernel | simp [px_cks]
/-- NoThree$Reader.endOfToken(I)I -/
def bk_9010 : Nat → Nat × List px_E := fun pc => match pc with
  | 0 => (4, [(0, .iload_n 1, 1, 1, 0, 0, .inl 0), (1, .iconst 1, 1, 0, 0, 0, .inl (nI 1)), (2, .iadd, 1, 0, 0, 0, .inl 0), (3, .istore_n 2, 1, 2, 0, 0, .inl 0)])
  | 4 => (12, [(4, .aload_n 0, 1, 0, 0, 0, .inl 0), (5, .iload_n 1, 1, 1, 0, 0, .inl 0), (6, .invokevirtual 99, 3, 9008, 2, 9, .inl 0), (9, .ifCond .eq 25, 3, 34, 0, 0, .inl 0)])
  | 12 => (34, [(12, .iload_n 2, 1, 2, 0, 0, .inl 0), (13, .aload_n 0, 1, 0, 0, 0, .inl 0), (14, .getfield 39, 3, 9, 7, 0, .inl 0), (17, .if_icmp .ge 47, 3, 64, 0, 0, .inl 0), (20, .aload_n 0, 1, 0, 0, 0, .inl 0), (21, .iload_n 2, 1, 2, 0, 0, .inl 0), (22, .invokevirtual 99, 3, 9008, 2, 9, .inl 0), (25, .ifCond .eq 39, 3, 64, 0, 0, .inl 0), (28, .iinc 2 1, 3, 2, 0, 0, .inl (nI 1)), (31, .goto (-19), 3, 12, 0, 0, .inl 0)])
  | 34 => (42, [(34, .aload_n 0, 1, 0, 0, 0, .inl 0), (35, .iload_n 1, 1, 1, 0, 0, .inl 0), (36, .invokevirtual 102, 3, 9009, 2, 9, .inl 0), (39, .ifCond .eq 25, 3, 64, 0, 0, .inl 0)])
  | 42 => (64, [(42, .iload_n 2, 1, 2, 0, 0, .inl 0), (43, .aload_n 0, 1, 0, 0, 0, .inl 0), (44, .getfield 39, 3, 9, 7, 0, .inl 0), (47, .if_icmp .ge 17, 3, 64, 0, 0, .inl 0), (50, .aload_n 0, 1, 0, 0, 0, .inl 0), (51, .iload_n 2, 1, 2, 0, 0, .inl 0), (52, .invokevirtual 102, 3, 9009, 2, 9, .inl 0), (55, .ifCond .eq 9, 3, 64, 0, 0, .inl 0), (58, .iinc 2 1, 3, 2, 0, 0, .inl (nI 1)), (61, .goto (-19), 3, 42, 0, 0, .inl 0)])
  | 64 => (66, [(64, .iload_n 2, 1, 2, 0, 0, .inl 0), (65, .ireturn, 1, 0, 0, 0, .inl 0)])
  | n => (n, [])
theorem ck_9010 : ∀ pc, px_cks pn_i9010 (bk_9010 pc).1 pc (bk_9010 pc).2 = true := by
  intro pc
  unfold bk_9010
  split <;> first | decide +kernel | simp [px_cks]
/-- NoThree$Reader.tokenOf(II)I -/
def bk_9011 : Nat → Nat × List px_E := fun pc => match pc with
  | 0 => (15, [(0, .aload_n 0, 1, 0, 0, 0, .inl 0), (1, .iload_n 1, 1, 1, 0, 0, .inl 0), (2, .invokevirtual 99, 3, 9008, 2, 9, .inl 0), (5, .ifCond .eq 10, 3, 15, 0, 0, .inl 0), (8, .aload_n 0, 1, 0, 0, 0, .inl 0), (9, .iload_n 1, 1, 1, 0, 0, .inl 0), (10, .iload_n 2, 1, 2, 0, 0, .inl 0), (11, .invokevirtual 105, 3, 9012, 3, 9, .inl 0), (14, .ireturn, 1, 0, 0, 0, .inl 0)])
  | 15 => (29, [(15, .aload_n 0, 1, 0, 0, 0, .inl 0), (16, .iload_n 1, 1, 1, 0, 0, .inl 0), (17, .invokevirtual 102, 3, 9009, 2, 9, .inl 0), (20, .ifCond .ne 35, 3, 55, 0, 0, .inl 0), (23, .aload_n 0, 1, 0, 0, 0, .inl 0), (24, .iload_n 1, 1, 1, 0, 0, .inl 0), (25, .invokevirtual 96, 3, 9006, 2, 9, .inl 0), (28, .istore_n 3, 1, 3, 0, 0, .inl 0)])
  | 29 => (51, [(29, .iload_n 3, 1, 3, 0, 0, .inl 0), (30, .ifCond .le 21, 3, 51, 0, 0, .inl 0), (33, .ldc 108, 2, 0, 0, 0, .inr (.inr (some 1002))), (35, .iload_n 3, 1, 3, 0, 0, .inl 0), (36, .i2c, 1, 0, 0, 0, .inl 0), (37, .invokevirtual 110, 3, 23005, 2, 23, .inl 0), (40, .ifCond .lt 11, 3, 51, 0, 0, .inl 0), (43, .sipush 4000, 3, 0, 0, 0, .inl (nI 4000)), (46, .iload_n 3, 1, 3, 0, 0, .inl 0), (47, .iadd, 1, 0, 0, 0, .inl 0), (48, .goto 6, 3, 54, 0, 0, .inl 0)])
  | 51 => (54, [(51, .sipush 3004, 3, 0, 0, 0, .inl (nI 3004))])
  | 54 => (55, [(54, .ireturn, 1, 0, 0, 0, .inl 0)])
  | 55 => (66, [(55, .iload_n 2, 1, 2, 0, 0, .inl 0), (56, .iload_n 1, 1, 1, 0, 0, .inl 0), (57, .isub, 1, 0, 0, 0, .inl 0), (58, .iconst 3, 1, 0, 0, 0, .inl (nI 3)), (59, .if_icmp .le 7, 3, 66, 0, 0, .inl 0), (62, .sipush 3004, 3, 0, 0, 0, .inl (nI 3004)), (65, .ireturn, 1, 0, 0, 0, .inl 0)])
  | 66 => (68, [(66, .iconst 0, 1, 0, 0, 0, .inl (nI 0)), (67, .istore_n 3, 1, 3, 0, 0, .inl 0)])
  | 68 => (71, [(68, .iload_n 1, 1, 1, 0, 0, .inl 0), (69, .istore 4, 2, 4, 0, 0, .inl 0)])
  | 71 => (92, [(71, .iload 4, 2, 4, 0, 0, .inl 0), (73, .iload_n 2, 1, 2, 0, 0, .inl 0), (74, .if_icmp .ge 24, 3, 98, 0, 0, .inl 0), (77, .bipush 10, 2, 0, 0, 0, .inl (nI 10)), (79, .iload_n 3, 1, 3, 0, 0, .inl 0), (80, .imul, 1, 0, 0, 0, .inl 0), (81, .aload_n 0, 1, 0, 0, 0, .inl 0), (82, .iload 4, 2, 4, 0, 0, .inl 0), (84, .invokevirtual 96, 3, 9006, 2, 9, .inl 0), (87, .iadd, 1, 0, 0, 0, .inl 0), (88, .bipush 48, 2, 0, 0, 0, .inl (nI 48)), (90, .isub, 1, 0, 0, 0, .inl 0), (91, .istore_n 3, 1, 3, 0, 0, .inl 0)])
  | 92 => (98, [(92, .iinc 4 1, 3, 4, 0, 0, .inl (nI 1)), (95, .goto (-24), 3, 71, 0, 0, .inl 0)])
  | 98 => (100, [(98, .iload_n 3, 1, 3, 0, 0, .inl 0), (99, .ireturn, 1, 0, 0, 0, .inl 0)])
  | n => (n, [])
theorem ck_9011 : ∀ pc, px_cks pn_i9011 (bk_9011 pc).1 pc (bk_9011 pc).2 = true := by
  intro pc
  unfold bk_9011
  split <;> first | decide +kernel | simp [px_cks]
/-- NoThree$Reader.wordOf(II)I -/
def bk_9012 : Nat → Nat × List px_E := fun pc => match pc with
  | 0 => (15, [(0, .aload_n 0, 1, 0, 0, 0, .inl 0), (1, .ldc 115, 2, 0, 0, 0, .inr (.inr (some 1003))), (3, .iload_n 1, 1, 1, 0, 0, .inl 0), (4, .iload_n 2, 1, 2, 0, 0, .inl 0), (5, .invokevirtual 117, 3, 9014, 4, 9, .inl 0), (8, .ifCond .eq 7, 3, 15, 0, 0, .inl 0), (11, .sipush 1004, 3, 0, 0, 0, .inl (nI 1004)), (14, .ireturn, 1, 0, 0, 0, .inl 0)])
  | 15 => (30, [(15, .aload_n 0, 1, 0, 0, 0, .inl 0), (16, .ldc 123, 2, 0, 0, 0, .inr (.inr (some 1004))), (18, .iload_n 1, 1, 1, 0, 0, .inl 0), (19, .iload_n 2, 1, 2, 0, 0, .inl 0), (20, .invokevirtual 117, 3, 9014, 4, 9, .inl 0), (23, .ifCond .eq 7, 3, 30, 0, 0, .inl 0), (26, .sipush 3000, 3, 0, 0, 0, .inl (nI 3000)), (29, .ireturn, 1, 0, 0, 0, .inl 0)])
  | 30 => (41, [(30, .aload_n 0, 1, 0, 0, 0, .inl 0), (31, .ldc 125, 2, 0, 0, 0, .inr (.inr (some 1005))), (33, .iload_n 1, 1, 1, 0, 0, .inl 0), (34, .iload_n 2, 1, 2, 0, 0, .inl 0), (35, .invokevirtual 117, 3, 9014, 4, 9, .inl 0), (38, .ifCond .eq 7, 3, 45, 0, 0, .inl 0)])
  | 41 => (45, [(41, .sipush 3001, 3, 0, 0, 0, .inl (nI 3001)), (44, .ireturn, 1, 0, 0, 0, .inl 0)])
  | 45 => (60, [(45, .aload_n 0, 1, 0, 0, 0, .inl 0), (46, .ldc 127, 2, 0, 0, 0, .inr (.inr (some 1006))), (48, .iload_n 1, 1, 1, 0, 0, .inl 0), (49, .iload_n 2, 1, 2, 0, 0, .inl 0), (50, .invokevirtual 117, 3, 9014, 4, 9, .inl 0), (53, .ifCond .eq 7, 3, 60, 0, 0, .inl 0), (56, .sipush 3002, 3, 0, 0, 0, .inl (nI 3002)), (59, .ireturn, 1, 0, 0, 0, .inl 0)])
  | 60 => (75, [(60, .aload_n 0, 1, 0, 0, 0, .inl 0), (61, .ldc 129, 2, 0, 0, 0, .inr (.inr (some 1007))), (63, .iload_n 1, 1, 1, 0, 0, .inl 0), (64, .iload_n 2, 1, 2, 0, 0, .inl 0), (65, .invokevirtual 117, 3, 9014, 4, 9, .inl 0), (68, .ifCond .eq 7, 3, 75, 0, 0, .inl 0), (71, .sipush 2006, 3, 0, 0, 0, .inl (nI 2006)), (74, .ireturn, 1, 0, 0, 0, .inl 0)])
  | 75 => (86, [(75, .aload_n 0, 1, 0, 0, 0, .inl 0), (76, .ldc 131, 2, 0, 0, 0, .inr (.inr (some 1008))), (78, .iload_n 1, 1, 1, 0, 0, .inl 0), (79, .iload_n 2, 1, 2, 0, 0, .inl 0), (80, .invokevirtual 117, 3, 9014, 4, 9, .inl 0), (83, .ifCond .eq 7, 3, 90, 0, 0, .inl 0)])
  | 86 => (90, [(86, .sipush 2007, 3, 0, 0, 0, .inl (nI 2007)), (89, .ireturn, 1, 0, 0, 0, .inl 0)])
  | 90 => (105, [(90, .aload_n 0, 1, 0, 0, 0, .inl 0), (91, .ldc 133, 2, 0, 0, 0, .inr (.inr (some 1009))), (93, .iload_n 1, 1, 1, 0, 0, .inl 0), (94, .iload_n 2, 1, 2, 0, 0, .inl 0), (95, .invokevirtual 117, 3, 9014, 4, 9, .inl 0), (98, .ifCond .eq 7, 3, 105, 0, 0, .inl 0), (101, .sipush 2008, 3, 0, 0, 0, .inl (nI 2008)), (104, .ireturn, 1, 0, 0, 0, .inl 0)])
  | 105 => (112, [(105, .aload_n 0, 1, 0, 0, 0, .inl 0), (106, .iload_n 1, 1, 1, 0, 0, .inl 0), (107, .iload_n 2, 1, 2, 0, 0, .inl 0), (108, .invokevirtual 135, 3, 9013, 3, 9, .inl 0), (111, .ireturn, 1, 0, 0, 0, .inl 0)])
  | n => (n, [])
theorem ck_9012 : ∀ pc, px_cks pn_i9012 (bk_9012 pc).1 pc (bk_9012 pc).2 = true := by
  intro pc
  unfold bk_9012
  split <;> first | decide +kernel | simp [px_cks]
/-- NoThree$Reader.ruleWordOf(II)I -/
def bk_9013 : Nat → Nat × List px_E := fun pc => match pc with
  | 0 => (15, [(0, .aload_n 0, 1, 0, 0, 0, .inl 0), (1, .ldc 138, 2, 0, 0, 0, .inr (.inr (some 1010))), (3, .iload_n 1, 1, 1, 0, 0, .inl 0), (4, .iload_n 2, 1, 2, 0, 0, .inl 0), (5, .invokevirtual 117, 3, 9014, 4, 9, .inl 0), (8, .ifCond .eq 7, 3, 15, 0, 0, .inl 0), (11, .sipush 1000, 3, 0, 0, 0, .inl (nI 1000)), (14, .ireturn, 1, 0, 0, 0, .inl 0)])
  | 15 => (30, [(15, .aload_n 0, 1, 0, 0, 0, .inl 0), (16, .ldc 140, 2, 0, 0, 0, .inr (.inr (some 1011))), (18, .iload_n 1, 1, 1, 0, 0, .inl 0), (19, .iload_n 2, 1, 2, 0, 0, .inl 0), (20, .invokevirtual 117, 3, 9014, 4, 9, .inl 0), (23, .ifCond .eq 7, 3, 30, 0, 0, .inl 0), (26, .sipush 1001, 3, 0, 0, 0, .inl (nI 1001)), (29, .ireturn, 1, 0, 0, 0, .inl 0)])
  | 30 => (41, [(30, .aload_n 0, 1, 0, 0, 0, .inl 0), (31, .ldc 142, 2, 0, 0, 0, .inr (.inr (some 1012))), (33, .iload_n 1, 1, 1, 0, 0, .inl 0), (34, .iload_n 2, 1, 2, 0, 0, .inl 0), (35, .invokevirtual 117, 3, 9014, 4, 9, .inl 0), (38, .ifCond .eq 7, 3, 45, 0, 0, .inl 0)])
  | 41 => (45, [(41, .sipush 1002, 3, 0, 0, 0, .inl (nI 1002)), (44, .ireturn, 1, 0, 0, 0, .inl 0)])
  | 45 => (60, [(45, .aload_n 0, 1, 0, 0, 0, .inl 0), (46, .ldc 144, 2, 0, 0, 0, .inr (.inr (some 1013))), (48, .iload_n 1, 1, 1, 0, 0, .inl 0), (49, .iload_n 2, 1, 2, 0, 0, .inl 0), (50, .invokevirtual 117, 3, 9014, 4, 9, .inl 0), (53, .ifCond .eq 7, 3, 60, 0, 0, .inl 0), (56, .sipush 1003, 3, 0, 0, 0, .inl (nI 1003)), (59, .ireturn, 1, 0, 0, 0, .inl 0)])
  | 60 => (75, [(60, .aload_n 0, 1, 0, 0, 0, .inl 0), (61, .ldc 146, 2, 0, 0, 0, .inr (.inr (some 1014))), (63, .iload_n 1, 1, 1, 0, 0, .inl 0), (64, .iload_n 2, 1, 2, 0, 0, .inl 0), (65, .invokevirtual 117, 3, 9014, 4, 9, .inl 0), (68, .ifCond .eq 7, 3, 75, 0, 0, .inl 0), (71, .sipush 1005, 3, 0, 0, 0, .inl (nI 1005)), (74, .ireturn, 1, 0, 0, 0, .inl 0)])
  | 75 => (86, [(75, .aload_n 0, 1, 0, 0, 0, .inl 0), (76, .ldc 148, 2, 0, 0, 0, .inr (.inr (some 1015))), (78, .iload_n 1, 1, 1, 0, 0, .inl 0), (79, .iload_n 2, 1, 2, 0, 0, .inl 0), (80, .invokevirtual 117, 3, 9014, 4, 9, .inl 0), (83, .ifCond .eq 7, 3, 90, 0, 0, .inl 0)])
  | 86 => (90, [(86, .sipush 1006, 3, 0, 0, 0, .inl (nI 1006)), (89, .ireturn, 1, 0, 0, 0, .inl 0)])
  | 90 => (105, [(90, .aload_n 0, 1, 0, 0, 0, .inl 0), (91, .ldc 150, 2, 0, 0, 0, .inr (.inr (some 1016))), (93, .iload_n 1, 1, 1, 0, 0, .inl 0), (94, .iload_n 2, 1, 2, 0, 0, .inl 0), (95, .invokevirtual 117, 3, 9014, 4, 9, .inl 0), (98, .ifCond .eq 7, 3, 105, 0, 0, .inl 0), (101, .sipush 1007, 3, 0, 0, 0, .inl (nI 1007)), (104, .ireturn, 1, 0, 0, 0, .inl 0)])
  | 105 => (122, [(105, .aload_n 0, 1, 0, 0, 0, .inl 0), (106, .ldc 152, 2, 0, 0, 0, .inr (.inr (some 1017))), (108, .iload_n 1, 1, 1, 0, 0, .inl 0), (109, .iload_n 2, 1, 2, 0, 0, .inl 0), (110, .invokevirtual 117, 3, 9014, 4, 9, .inl 0), (113, .ifCond .eq 9, 3, 122, 0, 0, .inl 0), (116, .sipush 1008, 3, 0, 0, 0, .inl (nI 1008)), (119, .goto 6, 3, 125, 0, 0, .inl 0)])
  | 122 => (125, [(122, .sipush 3003, 3, 0, 0, 0, .inl (nI 3003))])
  | 125 => (126, [(125, .ireturn, 1, 0, 0, 0, .inl 0)])
  | n => (n, [])
theorem ck_9013 : ∀ pc, px_cks pn_i9013 (bk_9013 pc).1 pc (bk_9013 pc).2 = true := by
  intro pc
  unfold bk_9013
  split <;> first | decide +kernel | simp [px_cks]
/-- NoThree$Reader.spells(Ljava/lang/String;II)Z -/
def bk_9014 : Nat → Nat × List px_E := fun pc => match pc with
  | 0 => (12, [(0, .aload_n 1, 1, 1, 0, 0, .inl 0), (1, .invokevirtual 154, 3, 23000, 1, 23, .inl 0), (4, .iload_n 3, 1, 3, 0, 0, .inl 0), (5, .iload_n 2, 1, 2, 0, 0, .inl 0), (6, .isub, 1, 0, 0, 0, .inl 0), (7, .if_icmp .eq 5, 3, 12, 0, 0, .inl 0), (10, .iconst 0, 1, 0, 0, 0, .inl (nI 0)), (11, .ireturn, 1, 0, 0, 0, .inl 0)])
  | 12 => (15, [(12, .iconst 0, 1, 0, 0, 0, .inl (nI 0)), (13, .istore 4, 2, 4, 0, 0, .inl 0)])
  | 15 => (43, [(15, .iload 4, 2, 4, 0, 0, .inl 0), (17, .aload_n 1, 1, 1, 0, 0, .inl 0), (18, .invokevirtual 154, 3, 23000, 1, 23, .inl 0), (21, .if_icmp .ge 28, 3, 49, 0, 0, .inl 0), (24, .aload_n 0, 1, 0, 0, 0, .inl 0), (25, .iload_n 2, 1, 2, 0, 0, .inl 0), (26, .iload 4, 2, 4, 0, 0, .inl 0), (28, .iadd, 1, 0, 0, 0, .inl 0), (29, .invokevirtual 96, 3, 9006, 2, 9, .inl 0), (32, .aload_n 1, 1, 1, 0, 0, .inl 0), (33, .iload 4, 2, 4, 0, 0, .inl 0), (35, .invokevirtual 158, 3, 23002, 2, 23, .inl 0), (38, .if_icmp .eq 5, 3, 43, 0, 0, .inl 0), (41, .iconst 0, 1, 0, 0, 0, .inl (nI 0)), (42, .ireturn, 1, 0, 0, 0, .inl 0)])
  | 43 => (49, [(43, .iinc 4 1, 3, 4, 0, 0, .inl (nI 1)), (46, .goto (-31), 3, 15, 0, 0, .inl 0)])
  | 49 => (51, [(49, .iconst 1, 1, 0, 0, 0, .inl (nI 1)), (50, .ireturn, 1, 0, 0, 0, .inl 0)])
  | n => (n, [])
theorem ck_9014 : ∀ pc, px_cks pn_i9014 (bk_9014 pc).1 pc (bk_9014 pc).2 = true := by
  intro pc
  unfold bk_9014
  split <;> first | decide +kernel | simp [px_cks]
/-- NoThree$Reader.advance()V -/
def bk_9015 : Nat → Nat × List px_E := fun pc => match pc with
  | 0 => (43, [(0, .aload_n 0, 1, 0, 0, 0, .inl 0), (1, .getfield 42, 3, 9, 8, 0, .inl 0), (4, .sipush 900, 3, 0, 0, 0, .inl (nI 900)), (7, .if_icmp .ge 36, 3, 43, 0, 0, .inl 0), (10, .aload_n 0, 1, 0, 0, 0, .inl 0), (11, .getfield 45, 3, 9, 9, 0, .inl 0), (14, .sipush 3005, 3, 0, 0, 0, .inl (nI 3005)), (17, .if_icmp .eq 26, 3, 43, 0, 0, .inl 0), (20, .aload_n 0, 1, 0, 0, 0, .inl 0), (21, .dup, 1, 0, 0, 0, .inl 0), (22, .getfield 42, 3, 9, 8, 0, .inl 0), (25, .iconst 1, 1, 0, 0, 0, .inl (nI 1)), (26, .iadd, 1, 0, 0, 0, .inl 0), (27, .putfield 42, 3, 9, 8, 0, .inl 0), (30, .aload_n 0, 1, 0, 0, 0, .inl 0), (31, .aload_n 0, 1, 0, 0, 0, .inl 0), (32, .getfield 32, 3, 9, 5, 2, .inl 0), (35, .aload_n 0, 1, 0, 0, 0, .inl 0), (36, .getfield 42, 3, 9, 8, 0, .inl 0), (39, .iaload, 1, 0, 0, 0, .inl 0), (40, .putfield 45, 3, 9, 9, 0, .inl 0)])
  | 43 => (44, [(43, .return_, 1, 0, 0, 0, .inl 0)])
  | n => (n, [])
theorem ck_9015 : ∀ pc, px_cks pn_i9015 (bk_9015 pc).1 pc (bk_9015 pc).2 = true := by
  intro pc
  unfold bk_9015
  split <;> first | decide +kernel | simp [px_cks]
/-- NoThree$Reader.isNumber()Z -/
def bk_9016 : Nat → Nat × List px_E := fun pc => match pc with
  | 0 => (14, [(0, .aload_n 0, 1, 0, 0, 0, .inl 0), (1, .getfield 45, 3, 9, 9, 0, .inl 0), (4, .sipush 1000, 3, 0, 0, 0, .inl (nI 1000)), (7, .if_icmp .ge 7, 3, 14, 0, 0, .inl 0), (10, .iconst 1, 1, 0, 0, 0, .inl (nI 1)), (11, .goto 4, 3, 15, 0, 0, .inl 0)])
  | 14 => (15, [(14, .iconst 0, 1, 0, 0, 0, .inl (nI 0))])
  | 15 => (16, [(15, .ireturn, 1, 0, 0, 0, .inl 0)])
  | n => (n, [])
theorem ck_9016 : ∀ pc, px_cks pn_i9016 (bk_9016 pc).1 pc (bk_9016 pc).2 = true := by
  intro pc
  unfold bk_9016
  split <;> first | decide +kernel | simp [px_cks]
/-- NoThree$Reader.isRuleWord()Z -/
def bk_9017 : Nat → Nat × List px_E := fun pc => match pc with
  | 0 => (24, [(0, .aload_n 0, 1, 0, 0, 0, .inl 0), (1, .getfield 45, 3, 9, 9, 0, .inl 0), (4, .sipush 1000, 3, 0, 0, 0, .inl (nI 1000)), (7, .if_icmp .lt 17, 3, 24, 0, 0, .inl 0), (10, .aload_n 0, 1, 0, 0, 0, .inl 0), (11, .getfield 45, 3, 9, 9, 0, .inl 0), (14, .sipush 2000, 3, 0, 0, 0, .inl (nI 2000)), (17, .if_icmp .ge 7, 3, 24, 0, 0, .inl 0), (20, .iconst 1, 1, 0, 0, 0, .inl (nI 1)), (21, .goto 4, 3, 25, 0, 0, .inl 0)])
  | 24 => (25, [(24, .iconst 0, 1, 0, 0, 0, .inl (nI 0))])
  | 25 => (26, [(25, .ireturn, 1, 0, 0, 0, .inl 0)])
  | n => (n, [])
theorem ck_9017 : ∀ pc, px_cks pn_i9017 (bk_9017 pc).1 pc (bk_9017 pc).2 = true := by
  intro pc
  unfold bk_9017
  split <;> first | decide +kernel | simp [px_cks]
/-- NoThree$Reader.blame(I)Z -/
def bk_9018 : Nat → Nat × List px_E := fun pc => match pc with
  | 0 => (27, [(0, .aload_n 0, 1, 0, 0, 0, .inl 0), (1, .getfield 15, 3, 9, 1, 0, .inl 0), (4, .ifCond .ne 40, 3, 44, 0, 0, .inl 0), (7, .aload_n 0, 1, 0, 0, 0, .inl 0), (8, .iload_n 1, 1, 1, 0, 0, .inl 0), (9, .iconst 2, 1, 0, 0, 0, .inl (nI 2)), (10, .if_icmp .ne 17, 3, 27, 0, 0, .inl 0), (13, .aload_n 0, 1, 0, 0, 0, .inl 0), (14, .getfield 45, 3, 9, 9, 0, .inl 0), (17, .sipush 3004, 3, 0, 0, 0, .inl (nI 3004)), (20, .if_icmp .ne 7, 3, 27, 0, 0, .inl 0), (23, .iconst 1, 1, 0, 0, 0, .inl (nI 1)), (24, .goto 4, 3, 28, 0, 0, .inl 0)])
  | 27 => (28, [(27, .iload_n 1, 1, 1, 0, 0, .inl 0)])
  | 28 => (44, [(28, .putfield 15, 3, 9, 1, 0, .inl 0), (31, .aload_n 0, 1, 0, 0, 0, .inl 0), (32, .aload_n 0, 1, 0, 0, 0, .inl 0), (33, .getfield 36, 3, 9, 6, 2, .inl 0), (36, .aload_n 0, 1, 0, 0, 0, .inl 0), (37, .getfield 42, 3, 9, 8, 0, .inl 0), (40, .iaload, 1, 0, 0, 0, .inl 0), (41, .putfield 18, 3, 9, 2, 0, .inl 0)])
  | 44 => (46, [(44, .iconst 0, 1, 0, 0, 0, .inl (nI 0)), (45, .ireturn, 1, 0, 0, 0, .inl 0)])
  | n => (n, [])
theorem ck_9018 : ∀ pc, px_cks pn_i9018 (bk_9018 pc).1 pc (bk_9018 pc).2 = true := by
  intro pc
  unfold bk_9018
  split <;> first | decide +kernel | simp [px_cks]
/-- NoThree$Reader.pass(I)Z -/
def bk_9019 : Nat → Nat × List px_E := fun pc => match pc with
  | 0 => (14, [(0, .aload_n 0, 1, 0, 0, 0, .inl 0), (1, .getfield 45, 3, 9, 9, 0, .inl 0), (4, .iload_n 1, 1, 1, 0, 0, .inl 0), (5, .if_icmp .eq 9, 3, 14, 0, 0, .inl 0), (8, .aload_n 0, 1, 0, 0, 0, .inl 0), (9, .iconst 2, 1, 0, 0, 0, .inl (nI 2)), (10, .invokevirtual 76, 3, 9018, 2, 9, .inl 0), (13, .ireturn, 1, 0, 0, 0, .inl 0)])
  | 14 => (20, [(14, .aload_n 0, 1, 0, 0, 0, .inl 0), (15, .invokevirtual 162, 3, 9015, 1, 9, .inl 0), (18, .iconst 1, 1, 0, 0, 0, .inl (nI 1)), (19, .ireturn, 1, 0, 0, 0, .inl 0)])
  | n => (n, [])
theorem ck_9019 : ∀ pc, px_cks pn_i9019 (bk_9019 pc).1 pc (bk_9019 pc).2 = true := by
  intro pc
  unfold bk_9019
  split <;> first | decide +kernel | simp [px_cks]
/-- NoThree$Reader.isHouseHere()Z -/
def bk_9020 : Nat → Nat × List px_E := fun pc => match pc with
  | 0 => (13, [(0, .aload_n 0, 1, 0, 0, 0, .inl 0), (1, .invokevirtual 165, 3, 9016, 1, 9, .inl 0), (4, .ifCond .ne 9, 3, 13, 0, 0, .inl 0), (7, .aload_n 0, 1, 0, 0, 0, .inl 0), (8, .iconst 2, 1, 0, 0, 0, .inl (nI 2)), (9, .invokevirtual 76, 3, 9018, 2, 9, .inl 0), (12, .ireturn, 1, 0, 0, 0, .inl 0)])
  | 13 => (38, [(13, .aload_n 0, 1, 0, 0, 0, .inl 0), (14, .getfield 24, 3, 9, 3, 2, .inl 0), (17, .getfield 168, 3, 1, 0, 2, .inl 0), (20, .aload_n 0, 1, 0, 0, 0, .inl 0), (21, .getfield 45, 3, 9, 9, 0, .inl 0), (24, .invokevirtual 172, 3, 11002, 2, 11, .inl 0), (27, .ifCond .ne 11, 3, 38, 0, 0, .inl 0), (30, .aload_n 0, 1, 0, 0, 0, .inl 0), (31, .iconst 3, 1, 0, 0, 0, .inl (nI 3)), (32, .invokevirtual 76, 3, 9018, 2, 9, .inl 0), (35, .ifCond .eq 7, 3, 42, 0, 0, .inl 0)])
  | 38 => (42, [(38, .iconst 1, 1, 0, 0, 0, .inl (nI 1)), (39, .goto 4, 3, 43, 0, 0, .inl 0)])
  | 42 => (43, [(42, .iconst 0, 1, 0, 0, 0, .inl (nI 0))])
  | 43 => (44, [(43, .ireturn, 1, 0, 0, 0, .inl 0)])
  | n => (n, [])
theorem ck_9020 : ∀ pc, px_cks pn_i9020 (bk_9020 pc).1 pc (bk_9020 pc).2 = true := by
  intro pc
  unfold bk_9020
  split <;> first | decide +kernel | simp [px_cks]
/-- NoThree$Reader.readHouses()Z -/
def bk_9021 : Nat → Nat × List px_E := fun pc => match pc with
  | 0 => (17, [(0, .aload_n 0, 1, 0, 0, 0, .inl 0), (1, .invokevirtual 162, 3, 9015, 1, 9, .inl 0), (4, .aload_n 0, 1, 0, 0, 0, .inl 0), (5, .invokevirtual 165, 3, 9016, 1, 9, .inl 0), (8, .ifCond .ne 9, 3, 17, 0, 0, .inl 0), (11, .aload_n 0, 1, 0, 0, 0, .inl 0), (12, .iconst 2, 1, 0, 0, 0, .inl (nI 2)), (13, .invokevirtual 76, 3, 9018, 2, 9, .inl 0), (16, .ireturn, 1, 0, 0, 0, .inl 0)])
  | 17 => (33, [(17, .aload_n 0, 1, 0, 0, 0, .inl 0), (18, .getfield 45, 3, 9, 9, 0, .inl 0), (21, .istore_n 1, 1, 1, 0, 0, .inl 0), (22, .iload_n 1, 1, 1, 0, 0, .inl 0), (23, .iconst 1, 1, 0, 0, 0, .inl (nI 1)), (24, .if_icmp .lt 9, 3, 33, 0, 0, .inl 0), (27, .iload_n 1, 1, 1, 0, 0, .inl 0), (28, .bipush 11, 2, 0, 0, 0, .inl (nI 11)), (30, .if_icmp .le 9, 3, 39, 0, 0, .inl 0)])
  | 33 => (39, [(33, .aload_n 0, 1, 0, 0, 0, .inl 0), (34, .iconst 3, 1, 0, 0, 0, .inl (nI 3)), (35, .invokevirtual 76, 3, 9018, 2, 9, .inl 0), (38, .ireturn, 1, 0, 0, 0, .inl 0)])
  | 39 => (62, [(39, .aload_n 0, 1, 0, 0, 0, .inl 0), (40, .getfield 24, 3, 9, 3, 2, .inl 0), (43, .getfield 168, 3, 1, 0, 2, .inl 0), (46, .getfield 177, 3, 11, 0, 0, .inl 0), (49, .iload_n 1, 1, 1, 0, 0, .inl 0), (50, .iadd, 1, 0, 0, 0, .inl 0), (51, .bipush 11, 2, 0, 0, 0, .inl (nI 11)), (53, .if_icmp .le 9, 3, 62, 0, 0, .inl 0), (56, .aload_n 0, 1, 0, 0, 0, .inl 0), (57, .iconst 4, 1, 0, 0, 0, .inl (nI 4)), (58, .invokevirtual 76, 3, 9018, 2, 9, .inl 0), (61, .ireturn, 1, 0, 0, 0, .inl 0)])
  | 62 => (64, [(62, .iconst 0, 1, 0, 0, 0, .inl (nI 0)), (63, .istore_n 2, 1, 2, 0, 0, .inl 0)])
  | 64 => (86, [(64, .iload_n 2, 1, 2, 0, 0, .inl 0), (65, .iload_n 1, 1, 1, 0, 0, .inl 0), (66, .if_icmp .ge 20, 3, 86, 0, 0, .inl 0), (69, .aload_n 0, 1, 0, 0, 0, .inl 0), (70, .getfield 24, 3, 9, 3, 2, .inl 0), (73, .getfield 168, 3, 1, 0, 2, .inl 0), (76, .iconst 0, 1, 0, 0, 0, .inl (nI 0)), (77, .invokevirtual 179, 3, 11011, 2, 11, .inl 0), (80, .iinc 2 1, 3, 2, 0, 0, .inl (nI 1)), (83, .goto (-19), 3, 64, 0, 0, .inl 0)])
  | 86 => (92, [(86, .aload_n 0, 1, 0, 0, 0, .inl 0), (87, .invokevirtual 162, 3, 9015, 1, 9, .inl 0), (90, .iconst 1, 1, 0, 0, 0, .inl (nI 1)), (91, .ireturn, 1, 0, 0, 0, .inl 0)])
  | n => (n, [])
theorem ck_9021 : ∀ pc, px_cks pn_i9021 (bk_9021 pc).1 pc (bk_9021 pc).2 = true := by
  intro pc
  unfold bk_9021
  split <;> first | decide +kernel | simp [px_cks]
/-- NoThree$Reader.readDoor()Z -/
def bk_9022 : Nat → Nat × List px_E := fun pc => match pc with
  | 0 => (13, [(0, .aload_n 0, 1, 0, 0, 0, .inl 0), (1, .invokevirtual 162, 3, 9015, 1, 9, .inl 0), (4, .aload_n 0, 1, 0, 0, 0, .inl 0), (5, .invokevirtual 183, 3, 9020, 1, 9, .inl 0), (8, .ifCond .ne 5, 3, 13, 0, 0, .inl 0), (11, .iconst 0, 1, 0, 0, 0, .inl (nI 0)), (12, .ireturn, 1, 0, 0, 0, .inl 0)])
  | 13 => (22, [(13, .aload_n 0, 1, 0, 0, 0, .inl 0), (14, .getfield 45, 3, 9, 9, 0, .inl 0), (17, .istore_n 1, 1, 1, 0, 0, .inl 0), (18, .aload_n 0, 1, 0, 0, 0, .inl 0), (19, .invokevirtual 162, 3, 9015, 1, 9, .inl 0)])
  | 22 => (31, [(22, .aload_n 0, 1, 0, 0, 0, .inl 0), (23, .invokevirtual 183, 3, 9020, 1, 9, .inl 0), (26, .ifCond .ne 5, 3, 31, 0, 0, .inl 0), (29, .iconst 0, 1, 0, 0, 0, .inl (nI 0)), (30, .ireturn, 1, 0, 0, 0, .inl 0)])
  | 31 => (57, [(31, .aload_n 0, 1, 0, 0, 0, .inl 0), (32, .getfield 45, 3, 9, 9, 0, .inl 0), (35, .iload_n 1, 1, 1, 0, 0, .inl 0), (36, .if_icmp .eq 21, 3, 57, 0, 0, .inl 0), (39, .aload_n 0, 1, 0, 0, 0, .inl 0), (40, .getfield 24, 3, 9, 3, 2, .inl 0), (43, .getfield 168, 3, 1, 0, 2, .inl 0), (46, .iload_n 1, 1, 1, 0, 0, .inl 0), (47, .aload_n 0, 1, 0, 0, 0, .inl 0), (48, .getfield 45, 3, 9, 9, 0, .inl 0), (51, .invokevirtual 186, 3, 11006, 3, 11, .inl 0), (54, .ifCond .eq 9, 3, 63, 0, 0, .inl 0)])
  | 57 => (63, [(57, .aload_n 0, 1, 0, 0, 0, .inl 0), (58, .iconst 3, 1, 0, 0, 0, .inl (nI 3)), (59, .invokevirtual 76, 3, 9018, 2, 9, .inl 0), (62, .ireturn, 1, 0, 0, 0, .inl 0)])
  | 63 => (84, [(63, .aload_n 0, 1, 0, 0, 0, .inl 0), (64, .getfield 24, 3, 9, 3, 2, .inl 0), (67, .getfield 168, 3, 1, 0, 2, .inl 0), (70, .iload_n 1, 1, 1, 0, 0, .inl 0), (71, .aload_n 0, 1, 0, 0, 0, .inl 0), (72, .getfield 45, 3, 9, 9, 0, .inl 0), (75, .invokevirtual 190, 3, 11009, 3, 11, .inl 0), (78, .aload_n 0, 1, 0, 0, 0, .inl 0), (79, .invokevirtual 162, 3, 9015, 1, 9, .inl 0), (82, .iconst 1, 1, 0, 0, 0, .inl (nI 1)), (83, .ireturn, 1, 0, 0, 0, .inl 0)])
  | n => (n, [])
theorem ck_9022 : ∀ pc, px_cks pn_i9022 (bk_9022 pc).1 pc (bk_9022 pc).2 = true := by
  intro pc
  unfold bk_9022
  split <;> first | decide +kernel | simp [px_cks]
/-- NoThree$Reader.readRing()Z -/
def bk_9023 : Nat → Nat × List px_E := fun pc => match pc with
  | 0 => (19, [(0, .aload_n 0, 1, 0, 0, 0, .inl 0), (1, .invokevirtual 162, 3, 9015, 1, 9, .inl 0), (4, .iconst 0, 1, 0, 0, 0, .inl (nI 0)), (5, .istore_n 1, 1, 1, 0, 0, .inl 0), (6, .aload_n 0, 1, 0, 0, 0, .inl 0), (7, .getfield 45, 3, 9, 9, 0, .inl 0), (10, .istore_n 2, 1, 2, 0, 0, .inl 0), (11, .aload_n 0, 1, 0, 0, 0, .inl 0), (12, .getfield 45, 3, 9, 9, 0, .inl 0), (15, .istore_n 3, 1, 3, 0, 0, .inl 0), (16, .iconst 0, 1, 0, 0, 0, .inl (nI 0)), (17, .istore 4, 2, 4, 0, 0, .inl 0)])
  | 19 => (42, [(19, .iload 4, 2, 4, 0, 0, .inl 0), (21, .bipush 11, 2, 0, 0, 0, .inl (nI 11)), (23, .if_icmp .gt 84, 3, 107, 0, 0, .inl 0), (26, .iload 4, 2, 4, 0, 0, .inl 0), (28, .iconst 3, 1, 0, 0, 0, .inl (nI 3)), (29, .if_icmp .lt 13, 3, 42, 0, 0, .inl 0), (32, .aload_n 0, 1, 0, 0, 0, .inl 0), (33, .invokevirtual 165, 3, 9016, 1, 9, .inl 0), (36, .ifCond .ne 6, 3, 42, 0, 0, .inl 0), (39, .goto 68, 3, 107, 0, 0, .inl 0)])
  | 42 => (51, [(42, .aload_n 0, 1, 0, 0, 0, .inl 0), (43, .invokevirtual 183, 3, 9020, 1, 9, .inl 0), (46, .ifCond .ne 5, 3, 51, 0, 0, .inl 0), (49, .iconst 0, 1, 0, 0, 0, .inl (nI 0)), (50, .ireturn, 1, 0, 0, 0, .inl 0)])
  | 51 => (68, [(51, .iload_n 1, 1, 1, 0, 0, .inl 0), (52, .iconst 1, 1, 0, 0, 0, .inl (nI 1)), (53, .aload_n 0, 1, 0, 0, 0, .inl 0), (54, .getfield 45, 3, 9, 9, 0, .inl 0), (57, .ishl, 1, 0, 0, 0, .inl 0), (58, .iand, 1, 0, 0, 0, .inl 0), (59, .ifCond .eq 9, 3, 68, 0, 0, .inl 0), (62, .aload_n 0, 1, 0, 0, 0, .inl 0), (63, .iconst 3, 1, 0, 0, 0, .inl (nI 3)), (64, .invokevirtual 76, 3, 9018, 2, 9, .inl 0), (67, .ireturn, 1, 0, 0, 0, .inl 0)])
  | 68 => (77, [(68, .iload_n 1, 1, 1, 0, 0, .inl 0), (69, .iconst 1, 1, 0, 0, 0, .inl (nI 1)), (70, .aload_n 0, 1, 0, 0, 0, .inl 0), (71, .getfield 45, 3, 9, 9, 0, .inl 0), (74, .ishl, 1, 0, 0, 0, .inl 0), (75, .ior, 1, 0, 0, 0, .inl 0), (76, .istore_n 1, 1, 1, 0, 0, .inl 0)])
  | 77 => (101, [(77, .aload_n 0, 1, 0, 0, 0, .inl 0), (78, .getfield 24, 3, 9, 3, 2, .inl 0), (81, .getfield 168, 3, 1, 0, 2, .inl 0), (84, .iload_n 3, 1, 3, 0, 0, .inl 0), (85, .aload_n 0, 1, 0, 0, 0, .inl 0), (86, .getfield 45, 3, 9, 9, 0, .inl 0), (89, .invokevirtual 190, 3, 11009, 3, 11, .inl 0), (92, .aload_n 0, 1, 0, 0, 0, .inl 0), (93, .getfield 45, 3, 9, 9, 0, .inl 0), (96, .istore_n 3, 1, 3, 0, 0, .inl 0), (97, .aload_n 0, 1, 0, 0, 0, .inl 0), (98, .invokevirtual 162, 3, 9015, 1, 9, .inl 0)])
  | 101 => (107, [(101, .iinc 4 1, 3, 4, 0, 0, .inl (nI 1)), (104, .goto (-85), 3, 19, 0, 0, .inl 0)])
  | 107 => (121, [(107, .aload_n 0, 1, 0, 0, 0, .inl 0), (108, .getfield 24, 3, 9, 3, 2, .inl 0), (111, .getfield 168, 3, 1, 0, 2, .inl 0), (114, .iload_n 3, 1, 3, 0, 0, .inl 0), (115, .iload_n 2, 1, 2, 0, 0, .inl 0), (116, .invokevirtual 190, 3, 11009, 3, 11, .inl 0), (119, .iconst 1, 1, 0, 0, 0, .inl (nI 1)), (120, .ireturn, 1, 0, 0, 0, .inl 0)])
  | n => (n, [])
theorem ck_9023 : ∀ pc, px_cks pn_i9023 (bk_9023 pc).1 pc (bk_9023 pc).2 = true := by
  intro pc
  unfold bk_9023
  split <;> first | decide +kernel | simp [px_cks]
/-- NoThree$Reader.readRule()Z -/
def bk_9024 : Nat → Nat × List px_E := fun pc => match pc with
  | 0 => (21, [(0, .aload_n 0, 1, 0, 0, 0, .inl 0), (1, .getfield 24, 3, 9, 3, 2, .inl 0), (4, .getfield 194, 3, 1, 1, 2, .inl 0), (7, .getfield 198, 3, 10, 0, 0, .inl 0), (10, .bipush 6, 2, 0, 0, 0, .inl (nI 6)), (12, .if_icmp .lt 9, 3, 21, 0, 0, .inl 0), (15, .aload_n 0, 1, 0, 0, 0, .inl 0), (16, .iconst 4, 1, 0, 0, 0, .inl (nI 4)), (17, .invokevirtual 76, 3, 9018, 2, 9, .inl 0), (20, .ireturn, 1, 0, 0, 0, .inl 0)])
  | 21 => (35, [(21, .aload_n 0, 1, 0, 0, 0, .inl 0), (22, .invokevirtual 162, 3, 9015, 1, 9, .inl 0), (25, .aload_n 0, 1, 0, 0, 0, .inl 0), (26, .sipush 4058, 3, 0, 0, 0, .inl (nI 4058)), (29, .invokevirtual 80, 3, 9019, 2, 9, .inl 0), (32, .ifCond .eq 11, 3, 43, 0, 0, .inl 0)])
  | 35 => (43, [(35, .aload_n 0, 1, 0, 0, 0, .inl 0), (36, .iconst 0, 1, 0, 0, 0, .inl (nI 0)), (37, .invokevirtual 201, 3, 9025, 2, 9, .inl 0), (40, .ifCond .ne 5, 3, 45, 0, 0, .inl 0)])
  | 43 => (45, [(43, .iconst 0, 1, 0, 0, 0, .inl (nI 0)), (44, .ireturn, 1, 0, 0, 0, .inl 0)])
  | 45 => (57, [(45, .aload_n 0, 1, 0, 0, 0, .inl 0), (46, .getfield 24, 3, 9, 3, 2, .inl 0), (49, .getfield 194, 3, 1, 1, 2, .inl 0), (52, .invokevirtual 204, 3, 10005, 1, 10, .inl 0), (55, .iconst 1, 1, 0, 0, 0, .inl (nI 1)), (56, .ireturn, 1, 0, 0, 0, .inl 0)])
  | n => (n, [])
theorem ck_9024 : ∀ pc, px_cks pn_i9024 (bk_9024 pc).1 pc (bk_9024 pc).2 = true := by
  intro pc
  unfold bk_9024
  split <;> first | decide +kernel | simp [px_cks]
/-- NoThree$Reader.readTruth(I)Z -/
def bk_9025 : Nat → Nat × List px_E := fun pc => match pc with
  | 0 => (10, [(0, .aload_n 0, 1, 0, 0, 0, .inl 0), (1, .iload_n 1, 1, 1, 0, 0, .inl 0), (2, .invokevirtual 207, 3, 9026, 2, 9, .inl 0), (5, .ifCond .ne 5, 3, 10, 0, 0, .inl 0), (8, .iconst 0, 1, 0, 0, 0, .inl (nI 0)), (9, .ireturn, 1, 0, 0, 0, .inl 0)])
  | 10 => (12, [(10, .iconst 0, 1, 0, 0, 0, .inl (nI 0)), (11, .istore_n 2, 1, 2, 0, 0, .inl 0)])
  | 12 => (43, [(12, .iload_n 2, 1, 2, 0, 0, .inl 0), (13, .sipush 900, 3, 0, 0, 0, .inl (nI 900)), (16, .if_icmp .ge 46, 3, 62, 0, 0, .inl 0), (19, .aload_n 0, 1, 0, 0, 0, .inl 0), (20, .getfield 45, 3, 9, 9, 0, .inl 0), (23, .sipush 2008, 3, 0, 0, 0, .inl (nI 2008)), (26, .if_icmp .ne 36, 3, 62, 0, 0, .inl 0), (29, .aload_n 0, 1, 0, 0, 0, .inl 0), (30, .invokevirtual 162, 3, 9015, 1, 9, .inl 0), (33, .aload_n 0, 1, 0, 0, 0, .inl 0), (34, .iload_n 1, 1, 1, 0, 0, .inl 0), (35, .invokevirtual 207, 3, 9026, 2, 9, .inl 0), (38, .ifCond .ne 5, 3, 43, 0, 0, .inl 0), (41, .iconst 0, 1, 0, 0, 0, .inl (nI 0)), (42, .ireturn, 1, 0, 0, 0, .inl 0)])
  | 43 => (56, [(43, .aload_n 0, 1, 0, 0, 0, .inl 0), (44, .getfield 24, 3, 9, 3, 2, .inl 0), (47, .getfield 194, 3, 1, 1, 2, .inl 0), (50, .sipush 2008, 3, 0, 0, 0, .inl (nI 2008)), (53, .invokevirtual 210, 3, 10004, 2, 10, .inl 0)])
  | 56 => (62, [(56, .iinc 2 1, 3, 2, 0, 0, .inl (nI 1)), (59, .goto (-47), 3, 12, 0, 0, .inl 0)])
  | 62 => (64, [(62, .iconst 1, 1, 0, 0, 0, .inl (nI 1)), (63, .ireturn, 1, 0, 0, 0, .inl 0)])
  | n => (n, [])
theorem ck_9025 : ∀ pc, px_cks pn_i9025 (bk_9025 pc).1 pc (bk_9025 pc).2 = true := by
  intro pc
  unfold bk_9025
  split <;> first | decide +kernel | simp [px_cks]
/-- NoThree$Reader.readBoth(I)Z -/
def bk_9026 : Nat → Nat × List px_E := fun pc => match pc with
  | 0 => (10, [(0, .aload_n 0, 1, 0, 0, 0, .inl 0), (1, .iload_n 1, 1, 1, 0, 0, .inl 0), (2, .invokevirtual 213, 3, 9027, 2, 9, .inl 0), (5, .ifCond .ne 5, 3, 10, 0, 0, .inl 0), (8, .iconst 0, 1, 0, 0, 0, .inl (nI 0)), (9, .ireturn, 1, 0, 0, 0, .inl 0)])
  | 10 => (12, [(10, .iconst 0, 1, 0, 0, 0, .inl (nI 0)), (11, .istore_n 2, 1, 2, 0, 0, .inl 0)])
  | 12 => (43, [(12, .iload_n 2, 1, 2, 0, 0, .inl 0), (13, .sipush 900, 3, 0, 0, 0, .inl (nI 900)), (16, .if_icmp .ge 46, 3, 62, 0, 0, .inl 0), (19, .aload_n 0, 1, 0, 0, 0, .inl 0), (20, .getfield 45, 3, 9, 9, 0, .inl 0), (23, .sipush 2007, 3, 0, 0, 0, .inl (nI 2007)), (26, .if_icmp .ne 36, 3, 62, 0, 0, .inl 0), (29, .aload_n 0, 1, 0, 0, 0, .inl 0), (30, .invokevirtual 162, 3, 9015, 1, 9, .inl 0), (33, .aload_n 0, 1, 0, 0, 0, .inl 0), (34, .iload_n 1, 1, 1, 0, 0, .inl 0), (35, .invokevirtual 213, 3, 9027, 2, 9, .inl 0), (38, .ifCond .ne 5, 3, 43, 0, 0, .inl 0), (41, .iconst 0, 1, 0, 0, 0, .inl (nI 0)), (42, .ireturn, 1, 0, 0, 0, .inl 0)])
  | 43 => (56, [(43, .aload_n 0, 1, 0, 0, 0, .inl 0), (44, .getfield 24, 3, 9, 3, 2, .inl 0), (47, .getfield 194, 3, 1, 1, 2, .inl 0), (50, .sipush 2007, 3, 0, 0, 0, .inl (nI 2007)), (53, .invokevirtual 210, 3, 10004, 2, 10, .inl 0)])
  | 56 => (62, [(56, .iinc 2 1, 3, 2, 0, 0, .inl (nI 1)), (59, .goto (-47), 3, 12, 0, 0, .inl 0)])
  | 62 => (64, [(62, .iconst 1, 1, 0, 0, 0, .inl (nI 1)), (63, .ireturn, 1, 0, 0, 0, .inl 0)])
  | n => (n, [])
theorem ck_9026 : ∀ pc, px_cks pn_i9026 (bk_9026 pc).1 pc (bk_9026 pc).2 = true := by
  intro pc
  unfold bk_9026
  split <;> first | decide +kernel | simp [px_cks]
/-- NoThree$Reader.readUnit(I)Z -/
def bk_9027 : Nat → Nat × List px_E := fun pc => match pc with
  | 0 => (14, [(0, .aload_n 0, 1, 0, 0, 0, .inl 0), (1, .getfield 45, 3, 9, 9, 0, .inl 0), (4, .sipush 2006, 3, 0, 0, 0, .inl (nI 2006)), (7, .if_icmp .ne 7, 3, 14, 0, 0, .inl 0), (10, .iconst 1, 1, 0, 0, 0, .inl (nI 1)), (11, .goto 4, 3, 15, 0, 0, .inl 0)])
  | 14 => (15, [(14, .iconst 0, 1, 0, 0, 0, .inl (nI 0))])
  | 15 => (36, [(15, .istore_n 2, 1, 2, 0, 0, .inl 0), (16, .iload_n 2, 1, 2, 0, 0, .inl 0), (17, .ifCond .ne 19, 3, 36, 0, 0, .inl 0), (20, .aload_n 0, 1, 0, 0, 0, .inl 0), (21, .getfield 45, 3, 9, 9, 0, .inl 0), (24, .sipush 4091, 3, 0, 0, 0, .inl (nI 4091)), (27, .if_icmp .eq 9, 3, 36, 0, 0, .inl 0), (30, .aload_n 0, 1, 0, 0, 0, .inl 0), (31, .iload_n 1, 1, 1, 0, 0, .inl 0), (32, .invokevirtual 216, 3, 9028, 2, 9, .inl 0), (35, .ireturn, 1, 0, 0, 0, .inl 0)])
  | 36 => (48, [(36, .iload_n 1, 1, 1, 0, 0, .inl 0), (37, .bipush 6, 2, 0, 0, 0, .inl (nI 6)), (39, .if_icmp .lt 9, 3, 48, 0, 0, .inl 0), (42, .aload_n 0, 1, 0, 0, 0, .inl 0), (43, .iconst 4, 1, 0, 0, 0, .inl (nI 4)), (44, .invokevirtual 76, 3, 9018, 2, 9, .inl 0), (47, .ireturn, 1, 0, 0, 0, .inl 0)])
  | 48 => (76, [(48, .aload_n 0, 1, 0, 0, 0, .inl 0), (49, .invokevirtual 162, 3, 9015, 1, 9, .inl 0), (52, .iload_n 2, 1, 2, 0, 0, .inl 0), (53, .ifCond .ne 29, 3, 82, 0, 0, .inl 0), (56, .aload_n 0, 1, 0, 0, 0, .inl 0), (57, .iload_n 1, 1, 1, 0, 0, .inl 0), (58, .iconst 1, 1, 0, 0, 0, .inl (nI 1)), (59, .iadd, 1, 0, 0, 0, .inl 0), (60, .invokevirtual 201, 3, 9025, 2, 9, .inl 0), (63, .ifCond .eq 17, 3, 80, 0, 0, .inl 0), (66, .aload_n 0, 1, 0, 0, 0, .inl 0), (67, .sipush 4093, 3, 0, 0, 0, .inl (nI 4093)), (70, .invokevirtual 80, 3, 9019, 2, 9, .inl 0), (73, .ifCond .eq 7, 3, 80, 0, 0, .inl 0)])
  | 76 => (80, [(76, .iconst 1, 1, 0, 0, 0, .inl (nI 1)), (77, .goto 4, 3, 81, 0, 0, .inl 0)])
  | 80 => (81, [(80, .iconst 0, 1, 0, 0, 0, .inl (nI 0))])
  | 81 => (82, [(81, .ireturn, 1, 0, 0, 0, .inl 0)])
  | 82 => (94, [(82, .aload_n 0, 1, 0, 0, 0, .inl 0), (83, .iload_n 1, 1, 1, 0, 0, .inl 0), (84, .iconst 1, 1, 0, 0, 0, .inl (nI 1)), (85, .iadd, 1, 0, 0, 0, .inl 0), (86, .invokevirtual 213, 3, 9027, 2, 9, .inl 0), (89, .ifCond .ne 5, 3, 94, 0, 0, .inl 0), (92, .iconst 0, 1, 0, 0, 0, .inl (nI 0)), (93, .ireturn, 1, 0, 0, 0, .inl 0)])
  | 94 => (107, [(94, .aload_n 0, 1, 0, 0, 0, .inl 0), (95, .getfield 24, 3, 9, 3, 2, .inl 0), (98, .getfield 194, 3, 1, 1, 2, .inl 0), (101, .sipush 2006, 3, 0, 0, 0, .inl (nI 2006)), (104, .invokevirtual 210, 3, 10004, 2, 10, .inl 0)])
  | 107 => (109, [(107, .iconst 1, 1, 0, 0, 0, .inl (nI 1)), (108, .ireturn, 1, 0, 0, 0, .inl 0)])
  | n => (n, [])
theorem ck_9027 : ∀ pc, px_cks pn_i9027 (bk_9027 pc).1 pc (bk_9027 pc).2 = true := by
  intro pc
  unfold bk_9027
  split <;> first | decide +kernel | simp [px_cks]
/-- NoThree$Reader.readComparison(I)Z -/
def bk_9028 : Nat → Nat × List px_E := fun pc => match pc with
  | 0 => (10, [(0, .aload_n 0, 1, 0, 0, 0, .inl 0), (1, .iload_n 1, 1, 1, 0, 0, .inl 0), (2, .invokevirtual 219, 3, 9030, 2, 9, .inl 0), (5, .ifCond .ne 5, 3, 10, 0, 0, .inl 0), (8, .iconst 0, 1, 0, 0, 0, .inl (nI 0)), (9, .ireturn, 1, 0, 0, 0, .inl 0)])
  | 10 => (29, [(10, .aload_n 0, 1, 0, 0, 0, .inl 0), (11, .getfield 45, 3, 9, 9, 0, .inl 0), (14, .invokestatic 222, 3, 9029, 1, 0, .inl 0), (17, .istore_n 2, 1, 2, 0, 0, .inl 0), (18, .iload_n 2, 1, 2, 0, 0, .inl 0), (19, .iconst (-1), 1, 0, 0, 0, .inl (-1)), (20, .if_icmp .ne 9, 3, 29, 0, 0, .inl 0), (23, .aload_n 0, 1, 0, 0, 0, .inl 0), (24, .iconst 2, 1, 0, 0, 0, .inl (nI 2)), (25, .invokevirtual 76, 3, 9018, 2, 9, .inl 0), (28, .ireturn, 1, 0, 0, 0, .inl 0)])
  | 29 => (33, [(29, .aload_n 0, 1, 0, 0, 0, .inl 0), (30, .invokevirtual 162, 3, 9015, 1, 9, .inl 0)])
  | 33 => (43, [(33, .aload_n 0, 1, 0, 0, 0, .inl 0), (34, .iload_n 1, 1, 1, 0, 0, .inl 0), (35, .invokevirtual 219, 3, 9030, 2, 9, .inl 0), (38, .ifCond .ne 5, 3, 43, 0, 0, .inl 0), (41, .iconst 0, 1, 0, 0, 0, .inl (nI 0)), (42, .ireturn, 1, 0, 0, 0, .inl 0)])
  | 43 => (56, [(43, .aload_n 0, 1, 0, 0, 0, .inl 0), (44, .getfield 24, 3, 9, 3, 2, .inl 0), (47, .getfield 194, 3, 1, 1, 2, .inl 0), (50, .iload_n 2, 1, 2, 0, 0, .inl 0), (51, .invokevirtual 210, 3, 10004, 2, 10, .inl 0), (54, .iconst 1, 1, 0, 0, 0, .inl (nI 1)), (55, .ireturn, 1, 0, 0, 0, .inl 0)])
  | n => (n, [])
theorem ck_9028 : ∀ pc, px_cks pn_i9028 (bk_9028 pc).1 pc (bk_9028 pc).2 = true := by
  intro pc
  unfold bk_9028
  split <;> first | decide +kernel | simp [px_cks]
/-- NoThree$Reader.comparisonOf(I)I -/
def bk_9029 : Nat → Nat × List px_E := fun pc => match pc with
  | 0 => (28, [(0, .iload_n 0, 1, 0, 0, 0, .inl 0), (1, .tableswitch 39 4060 4062 #[31, 27, 35], 27, 7, 0, 0, .inl 0)])
  | 28 => (32, [(28, .sipush 2003, 3, 0, 0, 0, .inl (nI 2003)), (31, .ireturn, 1, 0, 0, 0, .inl 0)])
  | 32 => (36, [(32, .sipush 2004, 3, 0, 0, 0, .inl (nI 2004)), (35, .ireturn, 1, 0, 0, 0, .inl 0)])
  | 36 => (40, [(36, .sipush 2005, 3, 0, 0, 0, .inl (nI 2005)), (39, .ireturn, 1, 0, 0, 0, .inl 0)])
  | 40 => (42, [(40, .iconst (-1), 1, 0, 0, 0, .inl (-1)), (41, .ireturn, 1, 0, 0, 0, .inl 0)])
  | n => (n, [])
theorem ck_9029 : ∀ pc, px_cks pn_i9029 (bk_9029 pc).1 pc (bk_9029 pc).2 = true := by
  intro pc
  unfold bk_9029
  split <;> first | decide +kernel | simp [px_cks]
/-- NoThree$Reader.readSum(I)Z -/
def bk_9030 : Nat → Nat × List px_E := fun pc => match pc with
  | 0 => (10, [(0, .aload_n 0, 1, 0, 0, 0, .inl 0), (1, .iload_n 1, 1, 1, 0, 0, .inl 0), (2, .invokevirtual 225, 3, 9031, 2, 9, .inl 0), (5, .ifCond .ne 5, 3, 10, 0, 0, .inl 0), (8, .iconst 0, 1, 0, 0, 0, .inl (nI 0)), (9, .ireturn, 1, 0, 0, 0, .inl 0)])
  | 10 => (12, [(10, .iconst 0, 1, 0, 0, 0, .inl (nI 0)), (11, .istore_n 2, 1, 2, 0, 0, .inl 0)])
  | 12 => (33, [(12, .iload_n 2, 1, 2, 0, 0, .inl 0), (13, .sipush 900, 3, 0, 0, 0, .inl (nI 900)), (16, .if_icmp .ge 79, 3, 95, 0, 0, .inl 0), (19, .aload_n 0, 1, 0, 0, 0, .inl 0), (20, .getfield 45, 3, 9, 9, 0, .inl 0), (23, .sipush 4043, 3, 0, 0, 0, .inl (nI 4043)), (26, .if_icmp .ne 7, 3, 33, 0, 0, .inl 0), (29, .iconst 1, 1, 0, 0, 0, .inl (nI 1)), (30, .goto 4, 3, 34, 0, 0, .inl 0)])
  | 33 => (34, [(33, .iconst 0, 1, 0, 0, 0, .inl (nI 0))])
  | 34 => (35, [(34, .istore_n 3, 1, 3, 0, 0, .inl 0)])
  | 35 => (52, [(35, .iload_n 3, 1, 3, 0, 0, .inl 0), (36, .ifCond .ne 16, 3, 52, 0, 0, .inl 0), (39, .aload_n 0, 1, 0, 0, 0, .inl 0), (40, .getfield 45, 3, 9, 9, 0, .inl 0), (43, .sipush 4045, 3, 0, 0, 0, .inl (nI 4045)), (46, .if_icmp .eq 6, 3, 52, 0, 0, .inl 0), (49, .goto 46, 3, 95, 0, 0, .inl 0)])
  | 52 => (66, [(52, .aload_n 0, 1, 0, 0, 0, .inl 0), (53, .invokevirtual 162, 3, 9015, 1, 9, .inl 0), (56, .aload_n 0, 1, 0, 0, 0, .inl 0), (57, .iload_n 1, 1, 1, 0, 0, .inl 0), (58, .invokevirtual 225, 3, 9031, 2, 9, .inl 0), (61, .ifCond .ne 5, 3, 66, 0, 0, .inl 0), (64, .iconst 0, 1, 0, 0, 0, .inl (nI 0)), (65, .ireturn, 1, 0, 0, 0, .inl 0)])
  | 66 => (83, [(66, .aload_n 0, 1, 0, 0, 0, .inl 0), (67, .getfield 24, 3, 9, 3, 2, .inl 0), (70, .getfield 194, 3, 1, 1, 2, .inl 0), (73, .iload_n 3, 1, 3, 0, 0, .inl 0), (74, .ifCond .eq 9, 3, 83, 0, 0, .inl 0), (77, .sipush 2000, 3, 0, 0, 0, .inl (nI 2000)), (80, .goto 6, 3, 86, 0, 0, .inl 0)])
  | 83 => (86, [(83, .sipush 2001, 3, 0, 0, 0, .inl (nI 2001))])
  | 86 => (89, [(86, .invokevirtual 210, 3, 10004, 2, 10, .inl 0)])
  | 89 => (95, [(89, .iinc 2 1, 3, 2, 0, 0, .inl (nI 1)), (92, .goto (-80), 3, 12, 0, 0, .inl 0)])
  | 95 => (97, [(95, .iconst 1, 1, 0, 0, 0, .inl (nI 1)), (96, .ireturn, 1, 0, 0, 0, .inl 0)])
  | n => (n, [])
theorem ck_9030 : ∀ pc, px_cks pn_i9030 (bk_9030 pc).1 pc (bk_9030 pc).2 = true := by
  intro pc
  unfold bk_9030
  split <;> first | decide +kernel | simp [px_cks]
/-- NoThree$Reader.readTerm(I)Z -/
def bk_9031 : Nat → Nat × List px_E := fun pc => match pc with
  | 0 => (10, [(0, .aload_n 0, 1, 0, 0, 0, .inl 0), (1, .iload_n 1, 1, 1, 0, 0, .inl 0), (2, .invokevirtual 228, 3, 9032, 2, 9, .inl 0), (5, .ifCond .ne 5, 3, 10, 0, 0, .inl 0), (8, .iconst 0, 1, 0, 0, 0, .inl (nI 0)), (9, .ireturn, 1, 0, 0, 0, .inl 0)])
  | 10 => (12, [(10, .iconst 0, 1, 0, 0, 0, .inl (nI 0)), (11, .istore_n 2, 1, 2, 0, 0, .inl 0)])
  | 12 => (43, [(12, .iload_n 2, 1, 2, 0, 0, .inl 0), (13, .sipush 900, 3, 0, 0, 0, .inl (nI 900)), (16, .if_icmp .ge 46, 3, 62, 0, 0, .inl 0), (19, .aload_n 0, 1, 0, 0, 0, .inl 0), (20, .getfield 45, 3, 9, 9, 0, .inl 0), (23, .sipush 4042, 3, 0, 0, 0, .inl (nI 4042)), (26, .if_icmp .ne 36, 3, 62, 0, 0, .inl 0), (29, .aload_n 0, 1, 0, 0, 0, .inl 0), (30, .invokevirtual 162, 3, 9015, 1, 9, .inl 0), (33, .aload_n 0, 1, 0, 0, 0, .inl 0), (34, .iload_n 1, 1, 1, 0, 0, .inl 0), (35, .invokevirtual 228, 3, 9032, 2, 9, .inl 0), (38, .ifCond .ne 5, 3, 43, 0, 0, .inl 0), (41, .iconst 0, 1, 0, 0, 0, .inl (nI 0)), (42, .ireturn, 1, 0, 0, 0, .inl 0)])
  | 43 => (56, [(43, .aload_n 0, 1, 0, 0, 0, .inl 0), (44, .getfield 24, 3, 9, 3, 2, .inl 0), (47, .getfield 194, 3, 1, 1, 2, .inl 0), (50, .sipush 2002, 3, 0, 0, 0, .inl (nI 2002)), (53, .invokevirtual 210, 3, 10004, 2, 10, .inl 0)])
  | 56 => (62, [(56, .iinc 2 1, 3, 2, 0, 0, .inl (nI 1)), (59, .goto (-47), 3, 12, 0, 0, .inl 0)])
  | 62 => (64, [(62, .iconst 1, 1, 0, 0, 0, .inl (nI 1)), (63, .ireturn, 1, 0, 0, 0, .inl 0)])
  | n => (n, [])
theorem ck_9031 : ∀ pc, px_cks pn_i9031 (bk_9031 pc).1 pc (bk_9031 pc).2 = true := by
  intro pc
  unfold bk_9031
  split <;> first | decide +kernel | simp [px_cks]
/-- NoThree$Reader.readAtom(I)Z -/
def bk_9032 : Nat → Nat × List px_E := fun pc => match pc with
  | 0 => (14, [(0, .aload_n 0, 1, 0, 0, 0, .inl 0), (1, .invokevirtual 165, 3, 9016, 1, 9, .inl 0), (4, .ifCond .ne 10, 3, 14, 0, 0, .inl 0), (7, .aload_n 0, 1, 0, 0, 0, .inl 0), (8, .invokevirtual 231, 3, 9017, 1, 9, .inl 0), (11, .ifCond .eq 23, 3, 34, 0, 0, .inl 0)])
  | 14 => (34, [(14, .aload_n 0, 1, 0, 0, 0, .inl 0), (15, .getfield 24, 3, 9, 3, 2, .inl 0), (18, .getfield 194, 3, 1, 1, 2, .inl 0), (21, .aload_n 0, 1, 0, 0, 0, .inl 0), (22, .getfield 45, 3, 9, 9, 0, .inl 0), (25, .invokevirtual 210, 3, 10004, 2, 10, .inl 0), (28, .aload_n 0, 1, 0, 0, 0, .inl 0), (29, .invokevirtual 162, 3, 9015, 1, 9, .inl 0), (32, .iconst 1, 1, 0, 0, 0, .inl (nI 1)), (33, .ireturn, 1, 0, 0, 0, .inl 0)])
  | 34 => (50, [(34, .aload_n 0, 1, 0, 0, 0, .inl 0), (35, .getfield 45, 3, 9, 9, 0, .inl 0), (38, .sipush 4040, 3, 0, 0, 0, .inl (nI 4040)), (41, .if_icmp .eq 9, 3, 50, 0, 0, .inl 0), (44, .aload_n 0, 1, 0, 0, 0, .inl 0), (45, .iconst 2, 1, 0, 0, 0, .inl (nI 2)), (46, .invokevirtual 76, 3, 9018, 2, 9, .inl 0), (49, .ireturn, 1, 0, 0, 0, .inl 0)])
  | 50 => (62, [(50, .iload_n 1, 1, 1, 0, 0, .inl 0), (51, .bipush 6, 2, 0, 0, 0, .inl (nI 6)), (53, .if_icmp .lt 9, 3, 62, 0, 0, .inl 0), (56, .aload_n 0, 1, 0, 0, 0, .inl 0), (57, .iconst 4, 1, 0, 0, 0, .inl (nI 4)), (58, .invokevirtual 76, 3, 9018, 2, 9, .inl 0), (61, .ireturn, 1, 0, 0, 0, .inl 0)])
  | 62 => (66, [(62, .aload_n 0, 1, 0, 0, 0, .inl 0), (63, .invokevirtual 162, 3, 9015, 1, 9, .inl 0)])
  | 66 => (90, [(66, .aload_n 0, 1, 0, 0, 0, .inl 0), (67, .iload_n 1, 1, 1, 0, 0, .inl 0), (68, .iconst 1, 1, 0, 0, 0, .inl (nI 1)), (69, .iadd, 1, 0, 0, 0, .inl 0), (70, .invokevirtual 219, 3, 9030, 2, 9, .inl 0), (73, .ifCond .eq 17, 3, 90, 0, 0, .inl 0), (76, .aload_n 0, 1, 0, 0, 0, .inl 0), (77, .sipush 4041, 3, 0, 0, 0, .inl (nI 4041)), (80, .invokevirtual 80, 3, 9019, 2, 9, .inl 0), (83, .ifCond .eq 7, 3, 90, 0, 0, .inl 0), (86, .iconst 1, 1, 0, 0, 0, .inl (nI 1)), (87, .goto 4, 3, 91, 0, 0, .inl 0)])
  | 90 => (91, [(90, .iconst 0, 1, 0, 0, 0, .inl (nI 0))])
  | 91 => (92, [(91, .ireturn, 1, 0, 0, 0, .inl 0)])
  | n => (n, [])
theorem ck_9032 : ∀ pc, px_cks pn_i9032 (bk_9032 pc).1 pc (bk_9032 pc).2 = true := by
  intro pc
  unfold bk_9032
  split <;> first | decide +kernel | simp [px_cks]
/-- NoThree$Rules.clear()V -/
def bk_10002 : Nat → Nat × List px_E := fun pc => match pc with
  | 0 => (19, [(0, .aload_n 0, 1, 0, 0, 0, .inl 0), (1, .iconst 0, 1, 0, 0, 0, .inl (nI 0)), (2, .putfield 9, 3, 10, 0, 0, .inl 0), (5, .aload_n 0, 1, 0, 0, 0, .inl 0), (6, .iconst 0, 1, 0, 0, 0, .inl (nI 0)), (7, .putfield 25, 3, 10, 4, 0, .inl 0), (10, .aload_n 0, 1, 0, 0, 0, .inl 0), (11, .getfield 19, 3, 10, 2, 2, .inl 0), (14, .iconst 0, 1, 0, 0, 0, .inl (nI 0)), (15, .invokestatic 28, 3, 22000, 2, 0, .inl 0), (18, .return_, 1, 0, 0, 0, .inl 0)])
  | n => (n, [])
theorem ck_10002 : ∀ pc, px_cks pn_i10002 (bk_10002 pc).1 pc (bk_10002 pc).2 = true := by
  intro pc
  unfold bk_10002
  split <;> first | decide +kernel | simp [px_cks]
/-- NoThree$Rules.become(LNoThree$Rules;)V -/
def bk_10003 : Nat → Nat × List px_E := fun pc => match pc with
  | 0 => (18, [(0, .aload_n 0, 1, 0, 0, 0, .inl 0), (1, .aload_n 1, 1, 1, 0, 0, .inl 0), (2, .getfield 9, 3, 10, 0, 0, .inl 0), (5, .putfield 9, 3, 10, 0, 0, .inl 0), (8, .aload_n 0, 1, 0, 0, 0, .inl 0), (9, .aload_n 1, 1, 1, 0, 0, .inl 0), (10, .getfield 25, 3, 10, 4, 0, .inl 0), (13, .putfield 25, 3, 10, 4, 0, .inl 0), (16, .iconst 0, 1, 0, 0, 0, .inl (nI 0)), (17, .istore_n 2, 1, 2, 0, 0, .inl 0)])
  | 18 => (42, [(18, .iload_n 2, 1, 2, 0, 0, .inl 0), (19, .bipush 6, 2, 0, 0, 0, .inl (nI 6)), (21, .if_icmp .gt 21, 3, 42, 0, 0, .inl 0), (24, .aload_n 0, 1, 0, 0, 0, .inl 0), (25, .getfield 15, 3, 10, 1, 2, .inl 0), (28, .iload_n 2, 1, 2, 0, 0, .inl 0), (29, .aload_n 1, 1, 1, 0, 0, .inl 0), (30, .getfield 15, 3, 10, 1, 2, .inl 0), (33, .iload_n 2, 1, 2, 0, 0, .inl 0), (34, .iaload, 1, 0, 0, 0, .inl 0), (35, .iastore, 1, 0, 0, 0, .inl 0), (36, .iinc 2 1, 3, 2, 0, 0, .inl (nI 1)), (39, .goto (-21), 3, 18, 0, 0, .inl 0)])
  | 42 => (44, [(42, .iconst 0, 1, 0, 0, 0, .inl (nI 0)), (43, .istore_n 2, 1, 2, 0, 0, .inl 0)])
  | 44 => (68, [(44, .iload_n 2, 1, 2, 0, 0, .inl 0), (45, .bipush 6, 2, 0, 0, 0, .inl (nI 6)), (47, .if_icmp .ge 21, 3, 68, 0, 0, .inl 0), (50, .aload_n 0, 1, 0, 0, 0, .inl 0), (51, .getfield 19, 3, 10, 2, 2, .inl 0), (54, .iload_n 2, 1, 2, 0, 0, .inl 0), (55, .aload_n 1, 1, 1, 0, 0, .inl 0), (56, .getfield 19, 3, 10, 2, 2, .inl 0), (59, .iload_n 2, 1, 2, 0, 0, .inl 0), (60, .iaload, 1, 0, 0, 0, .inl 0), (61, .iastore, 1, 0, 0, 0, .inl 0), (62, .iinc 2 1, 3, 2, 0, 0, .inl (nI 1)), (65, .goto (-21), 3, 44, 0, 0, .inl 0)])
  | 68 => (70, [(68, .iconst 0, 1, 0, 0, 0, .inl (nI 0)), (69, .istore_n 2, 1, 2, 0, 0, .inl 0)])
  | 70 => (103, [(70, .iload_n 2, 1, 2, 0, 0, .inl 0), (71, .aload_n 0, 1, 0, 0, 0, .inl 0), (72, .getfield 25, 3, 10, 4, 0, .inl 0), (75, .if_icmp .ge 28, 3, 103, 0, 0, .inl 0), (78, .iload_n 2, 1, 2, 0, 0, .inl 0), (79, .sipush 900, 3, 0, 0, 0, .inl (nI 900)), (82, .if_icmp .ge 21, 3, 103, 0, 0, .inl 0), (85, .aload_n 0, 1, 0, 0, 0, .inl 0), (86, .getfield 22, 3, 10, 3, 2, .inl 0), (89, .iload_n 2, 1, 2, 0, 0, .inl 0), (90, .aload_n 1, 1, 1, 0, 0, .inl 0), (91, .getfield 22, 3, 10, 3, 2, .inl 0), (94, .iload_n 2, 1, 2, 0, 0, .inl 0), (95, .iaload, 1, 0, 0, 0, .inl 0), (96, .iastore, 1, 0, 0, 0, .inl 0), (97, .iinc 2 1, 3, 2, 0, 0, .inl (nI 1)), (100, .goto (-30), 3, 70, 0, 0, .inl 0)])
  | 103 => (104, [(103, .return_, 1, 0, 0, 0, .inl 0)])
  | n => (n, [])
theorem ck_10003 : ∀ pc, px_cks pn_i10003 (bk_10003 pc).1 pc (bk_10003 pc).2 = true := by
  intro pc
  unfold bk_10003
  split <;> first | decide +kernel | simp [px_cks]
/-- NoThree$Rules.add(I)V -/
def bk_10004 : Nat → Nat × List px_E := fun pc => match pc with
  | 0 => (33, [(0, .aload_n 0, 1, 0, 0, 0, .inl 0), (1, .getfield 25, 3, 10, 4, 0, .inl 0), (4, .ifCond .lt 29, 3, 33, 0, 0, .inl 0), (7, .aload_n 0, 1, 0, 0, 0, .inl 0), (8, .getfield 25, 3, 10, 4, 0, .inl 0), (11, .sipush 900, 3, 0, 0, 0, .inl (nI 900)), (14, .if_icmp .ge 19, 3, 33, 0, 0, .inl 0), (17, .aload_n 0, 1, 0, 0, 0, .inl 0), (18, .getfield 9, 3, 10, 0, 0, .inl 0), (21, .ifCond .lt 12, 3, 33, 0, 0, .inl 0), (24, .aload_n 0, 1, 0, 0, 0, .inl 0), (25, .getfield 9, 3, 10, 0, 0, .inl 0), (28, .bipush 6, 2, 0, 0, 0, .inl (nI 6)), (30, .if_icmp .lt 4, 3, 34, 0, 0, .inl 0)])
  | 33 => (34, [(33, .return_, 1, 0, 0, 0, .inl 0)])
  | 34 => (54, [(34, .aload_n 0, 1, 0, 0, 0, .inl 0), (35, .getfield 22, 3, 10, 3, 2, .inl 0), (38, .aload_n 0, 1, 0, 0, 0, .inl 0), (39, .getfield 25, 3, 10, 4, 0, .inl 0), (42, .iload_n 1, 1, 1, 0, 0, .inl 0), (43, .iastore, 1, 0, 0, 0, .inl 0), (44, .aload_n 0, 1, 0, 0, 0, .inl 0), (45, .dup, 1, 0, 0, 0, .inl 0), (46, .getfield 25, 3, 10, 4, 0, .inl 0), (49, .iconst 1, 1, 0, 0, 0, .inl (nI 1)), (50, .iadd, 1, 0, 0, 0, .inl 0), (51, .putfield 25, 3, 10, 4, 0, .inl 0)])
  | 54 => (87, [(54, .iload_n 1, 1, 1, 0, 0, .inl 0), (55, .sipush 1000, 3, 0, 0, 0, .inl (nI 1000)), (58, .if_icmp .lt 29, 3, 87, 0, 0, .inl 0), (61, .iload_n 1, 1, 1, 0, 0, .inl 0), (62, .sipush 2000, 3, 0, 0, 0, .inl (nI 2000)), (65, .if_icmp .ge 22, 3, 87, 0, 0, .inl 0), (68, .aload_n 0, 1, 0, 0, 0, .inl 0), (69, .getfield 19, 3, 10, 2, 2, .inl 0), (72, .aload_n 0, 1, 0, 0, 0, .inl 0), (73, .getfield 9, 3, 10, 0, 0, .inl 0), (76, .dup2, 1, 0, 0, 0, .inl 0), (77, .iaload, 1, 0, 0, 0, .inl 0), (78, .iconst 1, 1, 0, 0, 0, .inl (nI 1)), (79, .iload_n 1, 1, 1, 0, 0, .inl 0), (80, .sipush 1000, 3, 0, 0, 0, .inl (nI 1000)), (83, .isub, 1, 0, 0, 0, .inl 0), (84, .ishl, 1, 0, 0, 0, .inl 0), (85, .ior, 1, 0, 0, 0, .inl 0), (86, .iastore, 1, 0, 0, 0, .inl 0)])
  | 87 => (88, [(87, .return_, 1, 0, 0, 0, .inl 0)])
  | n => (n, [])
theorem ck_10004 : ∀ pc, px_cks pn_i10004 (bk_10004 pc).1 pc (bk_10004 pc).2 = true := by
  intro pc
  unfold bk_10004
  split <;> first | decide +kernel | simp [px_cks]
/-- NoThree$Rules.close()V -/
def bk_10005 : Nat → Nat × List px_E := fun pc => match pc with
  | 0 => (39, [(0, .aload_n 0, 1, 0, 0, 0, .inl 0), (1, .getfield 9, 3, 10, 0, 0, .inl 0), (4, .ifCond .lt 35, 3, 39, 0, 0, .inl 0), (7, .aload_n 0, 1, 0, 0, 0, .inl 0), (8, .getfield 9, 3, 10, 0, 0, .inl 0), (11, .bipush 6, 2, 0, 0, 0, .inl (nI 6)), (13, .if_icmp .ge 26, 3, 39, 0, 0, .inl 0), (16, .aload_n 0, 1, 0, 0, 0, .inl 0), (17, .dup, 1, 0, 0, 0, .inl 0), (18, .getfield 9, 3, 10, 0, 0, .inl 0), (21, .iconst 1, 1, 0, 0, 0, .inl (nI 1)), (22, .iadd, 1, 0, 0, 0, .inl 0), (23, .putfield 9, 3, 10, 0, 0, .inl 0), (26, .aload_n 0, 1, 0, 0, 0, .inl 0), (27, .getfield 15, 3, 10, 1, 2, .inl 0), (30, .aload_n 0, 1, 0, 0, 0, .inl 0), (31, .getfield 9, 3, 10, 0, 0, .inl 0), (34, .aload_n 0, 1, 0, 0, 0, .inl 0), (35, .getfield 25, 3, 10, 4, 0, .inl 0), (38, .iastore, 1, 0, 0, 0, .inl 0)])
  | 39 => (40, [(39, .return_, 1, 0, 0, 0, .inl 0)])
  | n => (n, [])
theorem ck_10005 : ∀ pc, px_cks pn_i10005 (bk_10005 pc).1 pc (bk_10005 pc).2 = true := by
  intro pc
  unfold bk_10005
  split <;> first | decide +kernel | simp [px_cks]
/-- NoThree$Town.has(I)Z -/
def bk_11002 : Nat → Nat × List px_E := fun pc => match pc with
  | 0 => (16, [(0, .iload_n 1, 1, 1, 0, 0, .inl 0), (1, .ifCond .lt 15, 3, 16, 0, 0, .inl 0), (4, .iload_n 1, 1, 1, 0, 0, .inl 0), (5, .aload_n 0, 1, 0, 0, 0, .inl 0), (6, .getfield 9, 3, 11, 0, 0, .inl 0), (9, .if_icmp .ge 7, 3, 16, 0, 0, .inl 0), (12, .iconst 1, 1, 0, 0, 0, .inl (nI 1)), (13, .goto 4, 3, 17, 0, 0, .inl 0)])
  | 16 => (17, [(16, .iconst 0, 1, 0, 0, 0, .inl (nI 0))])
  | 17 => (18, [(17, .ireturn, 1, 0, 0, 0, .inl 0)])
  | n => (n, [])
theorem ck_11002 : ∀ pc, px_cks pn_i11002 (bk_11002 pc).1 pc (bk_11002 pc).2 = true := by
  intro pc
  unfold bk_11002
  split <;> first | decide +kernel | simp [px_cks]
