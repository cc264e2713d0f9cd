/-- NoThreeModel.undo(I)I -/
def bk_71 : Nat → Nat × List px_E := fun pc => match pc with
  | 0 => (28, [(0, .aload_n 0, 1, 0, 0, 0, .inl 0), (1, .iconst 0, 1, 0, 0, 0, .inl (nI 0)), (2, .putfield 1, 3, 0, 0, 0, .inl 0), (5, .iload_n 1, 1, 1, 0, 0, .inl 0), (6, .i2l, 1, 0, 0, 0, .inl 0), (7, .lconst 1, 1, 0, 0, 0, .inr (.inl (lN 1))), (8, .ldc2_w 304, 3, 0, 0, 0, .inr (.inl (lN 12))), (11, .invokestatic 141, 3, 2, 3, 0, .inl 0), (14, .ifCond .eq 14, 3, 28, 0, 0, .inl 0), (17, .iload_n 1, 1, 1, 0, 0, .inl 0), (18, .aload_n 0, 1, 0, 0, 0, .inl 0), (19, .getfield 13, 3, 0, 1, 2, .inl 0), (22, .bipush 13, 2, 0, 0, 0, .inl (nI 13)), (24, .iaload, 1, 0, 0, 0, .inl 0), (25, .if_icmp .le 6, 3, 31, 0, 0, .inl 0)])
  | 28 => (31, [(28, .bipush (-3), 2, 0, 0, 0, .inl (-3)), (30, .ireturn, 1, 0, 0, 0, .inl 0)])
  | 31 => (44, [(31, .aload_n 0, 1, 0, 0, 0, .inl 0), (32, .getfield 13, 3, 0, 1, 2, .inl 0), (35, .bipush 13, 2, 0, 0, 0, .inl (nI 13)), (37, .dup2, 1, 0, 0, 0, .inl 0), (38, .iaload, 1, 0, 0, 0, .inl 0), (39, .iload_n 1, 1, 1, 0, 0, .inl 0), (40, .isub, 1, 0, 0, 0, .inl 0), (41, .iastore, 1, 0, 0, 0, .inl 0), (42, .iconst 0, 1, 0, 0, 0, .inl (nI 0)), (43, .istore_n 2, 1, 2, 0, 0, .inl 0)])
  | 44 => (84, [(44, .iload_n 2, 1, 2, 0, 0, .inl 0), (45, .bipush 12, 2, 0, 0, 0, .inl (nI 12)), (47, .if_icmp .ge 37, 3, 84, 0, 0, .inl 0), (50, .aload_n 0, 1, 0, 0, 0, .inl 0), (51, .getfield 13, 3, 0, 1, 2, .inl 0), (54, .iconst 1, 1, 0, 0, 0, .inl (nI 1)), (55, .iload_n 2, 1, 2, 0, 0, .inl 0), (56, .iadd, 1, 0, 0, 0, .inl 0), (57, .aload_n 0, 1, 0, 0, 0, .inl 0), (58, .getfield 13, 3, 0, 1, 2, .inl 0), (61, .bipush 14, 2, 0, 0, 0, .inl (nI 14)), (63, .bipush 12, 2, 0, 0, 0, .inl (nI 12)), (65, .aload_n 0, 1, 0, 0, 0, .inl 0), (66, .getfield 13, 3, 0, 1, 2, .inl 0), (69, .bipush 13, 2, 0, 0, 0, .inl (nI 13)), (71, .iaload, 1, 0, 0, 0, .inl 0), (72, .imul, 1, 0, 0, 0, .inl 0), (73, .iadd, 1, 0, 0, 0, .inl 0), (74, .iload_n 2, 1, 2, 0, 0, .inl 0), (75, .iadd, 1, 0, 0, 0, .inl 0), (76, .iaload, 1, 0, 0, 0, .inl 0), (77, .iastore, 1, 0, 0, 0, .inl 0), (78, .iinc 2 1, 3, 2, 0, 0, .inl (nI 1)), (81, .goto (-37), 3, 44, 0, 0, .inl 0)])
  | 84 => (92, [(84, .aload_n 0, 1, 0, 0, 0, .inl 0), (85, .getfield 13, 3, 0, 1, 2, .inl 0), (88, .bipush 13, 2, 0, 0, 0, .inl (nI 13)), (90, .iaload, 1, 0, 0, 0, .inl 0), (91, .ireturn, 1, 0, 0, 0, .inl 0)])
  | n => (n, [])
theorem ck_71 : ∀ pc, px_cks pn_i71 (bk_71 pc).1 pc (bk_71 pc).2 = true := by
  intro pc
  unfold bk_71
  split <;> first | decide +kernel | simp [px_cks]
/-- NoThreeModel.actsOf(IZ)I -/
def bk_72 : Nat → Nat × List px_E := fun pc => match pc with
  | 0 => (7, [(0, .aload_n 0, 1, 0, 0, 0, .inl 0), (1, .iconst 0, 1, 0, 0, 0, .inl (nI 0)), (2, .putfield 306, 3, 0, 21, 0, .inl 0), (5, .iconst 0, 1, 0, 0, 0, .inl (nI 0)), (6, .istore_n 3, 1, 3, 0, 0, .inl 0)])
  | 7 => (38, [(7, .iload_n 3, 1, 3, 0, 0, .inl 0), (8, .aload_n 0, 1, 0, 0, 0, .inl 0), (9, .getfield 73, 3, 0, 36, 2, .inl 0), (12, .iload_n 1, 1, 1, 0, 0, .inl 0), (13, .iaload, 1, 0, 0, 0, .inl 0), (14, .if_icmp .ge 185, 3, 199, 0, 0, .inl 0), (17, .aload_n 0, 1, 0, 0, 0, .inl 0), (18, .getfield 76, 3, 0, 37, 2, .inl 0), (21, .bipush 40, 2, 0, 0, 0, .inl (nI 40)), (23, .iload_n 1, 1, 1, 0, 0, .inl 0), (24, .imul, 1, 0, 0, 0, .inl 0), (25, .iload_n 3, 1, 3, 0, 0, .inl 0), (26, .iadd, 1, 0, 0, 0, .inl 0), (27, .laload, 1, 0, 0, 0, .inl 0), (28, .lstore 4, 2, 4, 0, 0, .inl 0), (30, .lload 4, 2, 4, 0, 0, .inl 0), (32, .ldc2_w 309, 3, 0, 0, 0, .inr (.inl (lN 100))), (35, .ldiv, 1, 0, 0, 0, .inl 0), (36, .lstore 6, 2, 6, 0, 0, .inl 0)])
  | 38 => (46, [(38, .lload 4, 2, 4, 0, 0, .inl 0), (40, .ldc2_w 309, 3, 0, 0, 0, .inr (.inl (lN 100))), (43, .lrem, 1, 0, 0, 0, .inl 0), (44, .lstore 8, 2, 8, 0, 0, .inl 0)])
  | 46 => (79, [(46, .lload 4, 2, 4, 0, 0, .inl 0), (48, .lconst 0, 1, 0, 0, 0, .inr (.inl (lN 0))), (49, .lcmp, 1, 0, 0, 0, .inl 0), (50, .ifCond .lt 33, 3, 83, 0, 0, .inl 0), (53, .aload_n 0, 1, 0, 0, 0, .inl 0), (54, .lload 6, 2, 6, 0, 0, .inl 0), (56, .invokevirtual 214, 3, 30, 2, 0, .inl 0), (59, .ifCond .eq 24, 3, 83, 0, 0, .inl 0), (62, .aload_n 0, 1, 0, 0, 0, .inl 0), (63, .lload 8, 2, 8, 0, 0, .inl 0), (65, .invokevirtual 214, 3, 30, 2, 0, .inl 0), (68, .ifCond .eq 15, 3, 83, 0, 0, .inl 0), (71, .lload 6, 2, 6, 0, 0, .inl 0), (73, .lload 8, 2, 8, 0, 0, .inl 0), (75, .lcmp, 1, 0, 0, 0, .inl 0), (76, .ifCond .eq 7, 3, 83, 0, 0, .inl 0)])
  | 79 => (83, [(79, .iconst 1, 1, 0, 0, 0, .inl (nI 1)), (80, .goto 4, 3, 84, 0, 0, .inl 0)])
  | 83 => (84, [(83, .iconst 0, 1, 0, 0, 0, .inl (nI 0))])
  | 84 => (112, [(84, .istore 10, 2, 10, 0, 0, .inl 0), (86, .iload 10, 2, 10, 0, 0, .inl 0), (88, .ifCond .eq 24, 3, 112, 0, 0, .inl 0), (91, .aload_n 0, 1, 0, 0, 0, .inl 0), (92, .lload 6, 2, 6, 0, 0, .inl 0), (94, .l2i, 1, 0, 0, 0, .inl 0), (95, .invokevirtual 205, 3, 31, 2, 0, .inl 0), (98, .i2l, 1, 0, 0, 0, .inl 0), (99, .lload 8, 2, 8, 0, 0, .inl 0), (101, .l2i, 1, 0, 0, 0, .inl 0), (102, .invokestatic 151, 3, 14, 2, 0, .inl 0), (105, .ifCond .eq 7, 3, 112, 0, 0, .inl 0), (108, .iconst 1, 1, 0, 0, 0, .inl (nI 1)), (109, .goto 4, 3, 113, 0, 0, .inl 0)])
  | 112 => (113, [(112, .iconst 0, 1, 0, 0, 0, .inl (nI 0))])
  | 113 => (115, [(113, .istore 11, 2, 11, 0, 0, .inl 0)])
  | 115 => (125, [(115, .aload_n 0, 1, 0, 0, 0, .inl 0), (116, .iload 10, 2, 10, 0, 0, .inl 0), (118, .ifCond .ne 7, 3, 125, 0, 0, .inl 0), (121, .iconst 1, 1, 0, 0, 0, .inl (nI 1)), (122, .goto 20, 3, 142, 0, 0, .inl 0)])
  | 125 => (134, [(125, .iload 11, 2, 11, 0, 0, .inl 0), (127, .ifCond .eq 7, 3, 134, 0, 0, .inl 0), (130, .iconst 0, 1, 0, 0, 0, .inl (nI 0)), (131, .goto 11, 3, 142, 0, 0, .inl 0)])
  | 134 => (142, [(134, .aload_n 0, 1, 0, 0, 0, .inl 0), (135, .lload 6, 2, 6, 0, 0, .inl 0), (137, .lload 8, 2, 8, 0, 0, .inl 0), (139, .invokevirtual 280, 3, 57, 3, 0, .inl 0)])
  | 142 => (145, [(142, .putfield 306, 3, 0, 21, 0, .inl 0)])
  | 145 => (154, [(145, .aload_n 0, 1, 0, 0, 0, .inl 0), (146, .getfield 306, 3, 0, 21, 0, .inl 0), (149, .ifCond .eq 5, 3, 154, 0, 0, .inl 0), (152, .iload_n 3, 1, 3, 0, 0, .inl 0), (153, .ireturn, 1, 0, 0, 0, .inl 0)])
  | 154 => (162, [(154, .iload_n 2, 1, 2, 0, 0, .inl 0), (155, .ifCond .eq 7, 3, 162, 0, 0, .inl 0), (158, .aload_n 0, 1, 0, 0, 0, .inl 0), (159, .invokevirtual 284, 3, 58, 1, 0, .inl 0)])
  | 162 => (180, [(162, .iload 11, 2, 11, 0, 0, .inl 0), (164, .ifCond .eq 16, 3, 180, 0, 0, .inl 0), (167, .aload_n 0, 1, 0, 0, 0, .inl 0), (168, .lload 6, 2, 6, 0, 0, .inl 0), (170, .l2i, 1, 0, 0, 0, .inl 0), (171, .lload 8, 2, 8, 0, 0, .inl 0), (173, .l2i, 1, 0, 0, 0, .inl 0), (174, .invokevirtual 287, 3, 59, 3, 0, .inl 0), (177, .goto 16, 3, 193, 0, 0, .inl 0)])
  | 180 => (193, [(180, .aload_n 0, 1, 0, 0, 0, .inl 0), (181, .getfield 13, 3, 0, 1, 2, .inl 0), (184, .lload 6, 2, 6, 0, 0, .inl 0), (186, .l2i, 1, 0, 0, 0, .inl 0), (187, .lload 8, 2, 8, 0, 0, .inl 0), (189, .l2i, 1, 0, 0, 0, .inl 0), (190, .invokestatic 155, 3, 15, 3, 0, .inl 0)])
  | 193 => (199, [(193, .iinc 3 1, 3, 3, 0, 0, .inl (nI 1)), (196, .goto (-189), 3, 7, 0, 0, .inl 0)])
  | 199 => (206, [(199, .aload_n 0, 1, 0, 0, 0, .inl 0), (200, .getfield 73, 3, 0, 36, 2, .inl 0), (203, .iload_n 1, 1, 1, 0, 0, .inl 0), (204, .iaload, 1, 0, 0, 0, .inl 0), (205, .ireturn, 1, 0, 0, 0, .inl 0)])
  | n => (n, [])
theorem ck_72 : ∀ pc, px_cks pn_i72 (bk_72 pc).1 pc (bk_72 pc).2 = true := by
  intro pc
  unfold bk_72
  split <;> first | decide +kernel | simp [px_cks]
/-- NoThreeModel.threeMany()I -/
def bk_73 : Nat → Nat × List px_E := fun pc => match pc with
  | 0 => (4, [(0, .iconst 0, 1, 0, 0, 0, .inl (nI 0)), (1, .istore_n 1, 1, 1, 0, 0, .inl 0), (2, .iconst 0, 1, 0, 0, 0, .inl (nI 0)), (3, .istore_n 2, 1, 2, 0, 0, .inl 0)])
  | 4 => (22, [(4, .iload_n 2, 1, 2, 0, 0, .inl 0), (5, .aload_n 0, 1, 0, 0, 0, .inl 0), (6, .getfield 13, 3, 0, 1, 2, .inl 0), (9, .iconst 1, 1, 0, 0, 0, .inl (nI 1)), (10, .iaload, 1, 0, 0, 0, .inl 0), (11, .if_icmp .ge 17, 3, 28, 0, 0, .inl 0), (14, .iload_n 1, 1, 1, 0, 0, .inl 0), (15, .aload_n 0, 1, 0, 0, 0, .inl 0), (16, .iload_n 2, 1, 2, 0, 0, .inl 0), (17, .invokevirtual 218, 3, 33, 2, 0, .inl 0), (20, .iadd, 1, 0, 0, 0, .inl 0), (21, .istore_n 1, 1, 1, 0, 0, .inl 0)])
  | 22 => (28, [(22, .iinc 2 1, 3, 2, 0, 0, .inl (nI 1)), (25, .goto (-21), 3, 4, 0, 0, .inl 0)])
  | 28 => (32, [(28, .iload_n 1, 1, 1, 0, 0, .inl 0), (29, .iconst 3, 1, 0, 0, 0, .inl (nI 3)), (30, .idiv, 1, 0, 0, 0, .inl 0), (31, .ireturn, 1, 0, 0, 0, .inl 0)])
  | n => (n, [])
theorem ck_73 : ∀ pc, px_cks pn_i73 (bk_73 pc).1 pc (bk_73 pc).2 = true := by
  intro pc
  unfold bk_73
  split <;> first | decide +kernel | simp [px_cks]
/-- NoThreeModel.judge(II)I -/
def bk_74 : Nat → Nat × List px_E := fun pc => match pc with
  | 0 => (29, [(0, .aload_n 0, 1, 0, 0, 0, .inl 0), (1, .iconst 0, 1, 0, 0, 0, .inl (nI 0)), (2, .putfield 1, 3, 0, 0, 0, .inl 0), (5, .iload_n 1, 1, 1, 0, 0, .inl 0), (6, .i2l, 1, 0, 0, 0, .inl 0), (7, .lconst 0, 1, 0, 0, 0, .inr (.inl (lN 0))), (8, .ldc2_w 311, 3, 0, 0, 0, .inr (.inl (lN 3))), (11, .invokestatic 141, 3, 2, 3, 0, .inl 0), (14, .ifCond .eq 15, 3, 29, 0, 0, .inl 0), (17, .iload_n 2, 1, 2, 0, 0, .inl 0), (18, .i2l, 1, 0, 0, 0, .inl 0), (19, .lconst 0, 1, 0, 0, 0, .inr (.inl (lN 0))), (20, .ldc2_w 311, 3, 0, 0, 0, .inr (.inl (lN 3))), (23, .invokestatic 141, 3, 2, 3, 0, .inl 0), (26, .ifCond .ne 6, 3, 32, 0, 0, .inl 0)])
  | 29 => (32, [(29, .bipush (-2), 2, 0, 0, 0, .inl (-2)), (31, .ireturn, 1, 0, 0, 0, .inl 0)])
  | 32 => (45, [(32, .aload_n 0, 1, 0, 0, 0, .inl 0), (33, .getfield 70, 3, 0, 35, 2, .inl 0), (36, .iload_n 1, 1, 1, 0, 0, .inl 0), (37, .iaload, 1, 0, 0, 0, .inl 0), (38, .iconst (-1), 1, 0, 0, 0, .inl (-1)), (39, .if_icmp .ne 6, 3, 45, 0, 0, .inl 0), (42, .bipush (-6), 2, 0, 0, 0, .inl (-6)), (44, .ireturn, 1, 0, 0, 0, .inl 0)])
  | 45 => (60, [(45, .aload_n 0, 1, 0, 0, 0, .inl 0), (46, .aload_n 0, 1, 0, 0, 0, .inl 0), (47, .getfield 39, 3, 0, 18, 2, .inl 0), (50, .invokevirtual 270, 3, 52, 2, 0, .inl 0), (53, .aload_n 0, 1, 0, 0, 0, .inl 0), (54, .iload_n 1, 1, 1, 0, 0, .inl 0), (55, .iconst 0, 1, 0, 0, 0, .inl (nI 0)), (56, .invokevirtual 313, 3, 72, 3, 0, .inl 0), (59, .istore_n 3, 1, 3, 0, 0, .inl 0)])
  | 60 => (80, [(60, .aload_n 0, 1, 0, 0, 0, .inl 0), (61, .invokevirtual 237, 3, 45, 1, 0, .inl 0), (64, .istore 4, 2, 4, 0, 0, .inl 0), (66, .aload_n 0, 1, 0, 0, 0, .inl 0), (67, .invokevirtual 317, 3, 73, 1, 0, .inl 0), (70, .istore 5, 2, 5, 0, 0, .inl 0), (72, .aload_n 0, 1, 0, 0, 0, .inl 0), (73, .aload_n 0, 1, 0, 0, 0, .inl 0), (74, .getfield 39, 3, 0, 18, 2, .inl 0), (77, .invokevirtual 277, 3, 53, 2, 0, .inl 0)])
  | 80 => (95, [(80, .iload_n 2, 1, 2, 0, 0, .inl 0), (81, .ifCond .ne 18, 3, 99, 0, 0, .inl 0), (84, .aload_n 0, 1, 0, 0, 0, .inl 0), (85, .getfield 306, 3, 0, 21, 0, .inl 0), (88, .ifCond .ne 7, 3, 95, 0, 0, .inl 0), (91, .iconst (-1), 1, 0, 0, 0, .inl (-1)), (92, .goto 31, 3, 123, 0, 0, .inl 0)])
  | 95 => (99, [(95, .iload_n 3, 1, 3, 0, 0, .inl 0), (96, .goto 27, 3, 123, 0, 0, .inl 0)])
  | 99 => (111, [(99, .iload_n 2, 1, 2, 0, 0, .inl 0), (100, .iconst 1, 1, 0, 0, 0, .inl (nI 1)), (101, .if_icmp .ne 10, 3, 111, 0, 0, .inl 0), (104, .aload_n 0, 1, 0, 0, 0, .inl 0), (105, .getfield 306, 3, 0, 21, 0, .inl 0), (108, .goto 15, 3, 123, 0, 0, .inl 0)])
  | 111 => (121, [(111, .iload_n 2, 1, 2, 0, 0, .inl 0), (112, .iconst 2, 1, 0, 0, 0, .inl (nI 2)), (113, .if_icmp .ne 8, 3, 121, 0, 0, .inl 0), (116, .iload 4, 2, 4, 0, 0, .inl 0), (118, .goto 5, 3, 123, 0, 0, .inl 0)])
  | 121 => (123, [(121, .iload 5, 2, 5, 0, 0, .inl 0)])
  | 123 => (124, [(123, .ireturn, 1, 0, 0, 0, .inl 0)])
  | n => (n, [])
theorem ck_74 : ∀ pc, px_cks pn_i74 (bk_74 pc).1 pc (bk_74 pc).2 = true := by
  intro pc
  unfold bk_74
  split <;> first | decide +kernel | simp [px_cks]
/-- NoThreeModel.perform(I)I -/
def bk_75 : Nat → Nat × List px_E := fun pc => match pc with
  | 0 => (20, [(0, .aload_n 0, 1, 0, 0, 0, .inl 0), (1, .iconst 0, 1, 0, 0, 0, .inl (nI 0)), (2, .putfield 1, 3, 0, 0, 0, .inl 0), (5, .iload_n 1, 1, 1, 0, 0, .inl 0), (6, .i2l, 1, 0, 0, 0, .inl 0), (7, .lconst 0, 1, 0, 0, 0, .inr (.inl (lN 0))), (8, .ldc2_w 311, 3, 0, 0, 0, .inr (.inl (lN 3))), (11, .invokestatic 141, 3, 2, 3, 0, .inl 0), (14, .ifCond .ne 6, 3, 20, 0, 0, .inl 0), (17, .bipush (-2), 2, 0, 0, 0, .inl (-2)), (19, .ireturn, 1, 0, 0, 0, .inl 0)])
  | 20 => (35, [(20, .aload_n 0, 1, 0, 0, 0, .inl 0), (21, .getfield 70, 3, 0, 35, 2, .inl 0), (24, .iload_n 1, 1, 1, 0, 0, .inl 0), (25, .iaload, 1, 0, 0, 0, .inl 0), (26, .iconst (-1), 1, 0, 0, 0, .inl (-1)), (27, .if_icmp .ne 8, 3, 35, 0, 0, .inl 0), (30, .bipush (-6), 2, 0, 0, 0, .inl (-6)), (32, .goto 9, 3, 41, 0, 0, .inl 0)])
  | 35 => (41, [(35, .aload_n 0, 1, 0, 0, 0, .inl 0), (36, .iload_n 1, 1, 1, 0, 0, .inl 0), (37, .iconst 1, 1, 0, 0, 0, .inl (nI 1)), (38, .invokevirtual 313, 3, 72, 3, 0, .inl 0)])
  | 41 => (42, [(41, .ireturn, 1, 0, 0, 0, .inl 0)])
  | n => (n, [])
theorem ck_75 : ∀ pc, px_cks pn_i75 (bk_75 pc).1 pc (bk_75 pc).2 = true := by
  intro pc
  unfold bk_75
  split <;> first | decide +kernel | simp [px_cks]
/-- NoThreeModel.growsBy()I -/
def bk_76 : Nat → Nat × List px_E := fun pc => match pc with
  | 0 => (4, [(0, .iconst (-1), 1, 0, 0, 0, .inl (-1)), (1, .istore_n 1, 1, 1, 0, 0, .inl 0), (2, .iconst 0, 1, 0, 0, 0, .inl (nI 0)), (3, .istore_n 2, 1, 2, 0, 0, .inl 0)])
  | 4 => (40, [(4, .iload_n 2, 1, 2, 0, 0, .inl 0), (5, .iconst 1, 1, 0, 0, 0, .inl (nI 1)), (6, .aload_n 0, 1, 0, 0, 0, .inl 0), (7, .getfield 13, 3, 0, 1, 2, .inl 0), (10, .iconst 1, 1, 0, 0, 0, .inl (nI 1)), (11, .iaload, 1, 0, 0, 0, .inl 0), (12, .ishl, 1, 0, 0, 0, .inl 0), (13, .if_icmp .ge 55, 3, 68, 0, 0, .inl 0), (16, .aload_n 0, 1, 0, 0, 0, .inl 0), (17, .getfield 13, 3, 0, 1, 2, .inl 0), (20, .iconst 1, 1, 0, 0, 0, .inl (nI 1)), (21, .iaload, 1, 0, 0, 0, .inl 0), (22, .bipush 11, 2, 0, 0, 0, .inl (nI 11)), (24, .if_icmp .ge 44, 3, 68, 0, 0, .inl 0), (27, .aload_n 0, 1, 0, 0, 0, .inl 0), (28, .iload_n 2, 1, 2, 0, 0, .inl 0), (29, .invokevirtual 230, 3, 40, 2, 0, .inl 0), (32, .ifCond .eq 30, 3, 62, 0, 0, .inl 0), (35, .iload_n 1, 1, 1, 0, 0, .inl 0), (36, .iconst (-1), 1, 0, 0, 0, .inl (-1)), (37, .if_icmp .eq 14, 3, 51, 0, 0, .inl 0)])
  | 40 => (51, [(40, .iload_n 2, 1, 2, 0, 0, .inl 0), (41, .invokestatic 208, 3, 32, 1, 0, .inl 0), (44, .iload_n 1, 1, 1, 0, 0, .inl 0), (45, .invokestatic 208, 3, 32, 1, 0, .inl 0), (48, .if_icmp .le 14, 3, 62, 0, 0, .inl 0)])
  | 51 => (62, [(51, .aload_n 0, 1, 0, 0, 0, .inl 0), (52, .iload_n 2, 1, 2, 0, 0, .inl 0), (53, .i2l, 1, 0, 0, 0, .inl 0), (54, .invokevirtual 294, 3, 65, 2, 0, .inl 0), (57, .ifCond .ne 5, 3, 62, 0, 0, .inl 0), (60, .iload_n 2, 1, 2, 0, 0, .inl 0), (61, .istore_n 1, 1, 1, 0, 0, .inl 0)])
  | 62 => (68, [(62, .iinc 2 1, 3, 2, 0, 0, .inl (nI 1)), (65, .goto (-61), 3, 4, 0, 0, .inl 0)])
  | 68 => (70, [(68, .iload_n 1, 1, 1, 0, 0, .inl 0), (69, .ireturn, 1, 0, 0, 0, .inl 0)])
  | n => (n, [])
theorem ck_76 : ∀ pc, px_cks pn_i76 (bk_76 pc).1 pc (bk_76 pc).2 = true := by
  intro pc
  unfold bk_76
  split <;> first | decide +kernel | simp [px_cks]
/-- NoThreeModel.grow(I)I -/
def bk_77 : Nat → Nat × List px_E := fun pc => match pc with
  | 0 => (20, [(0, .aload_n 0, 1, 0, 0, 0, .inl 0), (1, .iconst 0, 1, 0, 0, 0, .inl (nI 0)), (2, .putfield 1, 3, 0, 0, 0, .inl 0), (5, .iload_n 1, 1, 1, 0, 0, .inl 0), (6, .i2l, 1, 0, 0, 0, .inl 0), (7, .lconst 1, 1, 0, 0, 0, .inr (.inl (lN 1))), (8, .ldc2_w 145, 3, 0, 0, 0, .inr (.inl (lN 11))), (11, .invokestatic 141, 3, 2, 3, 0, .inl 0), (14, .ifCond .ne 6, 3, 20, 0, 0, .inl 0), (17, .bipush (-3), 2, 0, 0, 0, .inl (-3)), (19, .ireturn, 1, 0, 0, 0, .inl 0)])
  | 20 => (22, [(20, .iconst 0, 1, 0, 0, 0, .inl (nI 0)), (21, .istore_n 2, 1, 2, 0, 0, .inl 0)])
  | 22 => (39, [(22, .iload_n 2, 1, 2, 0, 0, .inl 0), (23, .iload_n 1, 1, 1, 0, 0, .inl 0), (24, .if_icmp .ge 30, 3, 54, 0, 0, .inl 0), (27, .aload_n 0, 1, 0, 0, 0, .inl 0), (28, .invokevirtual 320, 3, 76, 1, 0, .inl 0), (31, .istore_n 3, 1, 3, 0, 0, .inl 0), (32, .iload_n 3, 1, 3, 0, 0, .inl 0), (33, .iconst (-1), 1, 0, 0, 0, .inl (-1)), (34, .if_icmp .ne 5, 3, 39, 0, 0, .inl 0), (37, .iload_n 2, 1, 2, 0, 0, .inl 0), (38, .ireturn, 1, 0, 0, 0, .inl 0)])
  | 39 => (54, [(39, .aload_n 0, 1, 0, 0, 0, .inl 0), (40, .invokevirtual 284, 3, 58, 1, 0, .inl 0), (43, .aload_n 0, 1, 0, 0, 0, .inl 0), (44, .iload_n 3, 1, 3, 0, 0, .inl 0), (45, .invokevirtual 291, 3, 64, 2, 0, .inl 0), (48, .iinc 2 1, 3, 2, 0, 0, .inl (nI 1)), (51, .goto (-29), 3, 22, 0, 0, .inl 0)])
  | 54 => (56, [(54, .iload_n 1, 1, 1, 0, 0, .inl 0), (55, .ireturn, 1, 0, 0, 0, .inl 0)])
  | n => (n, [])
theorem ck_77 : ∀ pc, px_cks pn_i77 (bk_77 pc).1 pc (bk_77 pc).2 = true := by
  intro pc
  unfold bk_77
  split <;> first | decide +kernel | simp [px_cks]
/-- NoThreeModel.draw(I)I -/
def bk_78 : Nat → Nat × List px_E := fun pc => match pc with
  | 0 => (26, [(0, .aload_n 0, 1, 0, 0, 0, .inl 0), (1, .ldc_w 323, 3, 0, 0, 0, .inl (nI 1103515245)), (4, .aload_n 0, 1, 0, 0, 0, .inl 0), (5, .getfield 324, 3, 0, 22, 0, .inl 0), (8, .imul, 1, 0, 0, 0, .inl 0), (9, .sipush 12345, 3, 0, 0, 0, .inl (nI 12345)), (12, .iadd, 1, 0, 0, 0, .inl 0), (13, .putfield 324, 3, 0, 22, 0, .inl 0), (16, .aload_n 0, 1, 0, 0, 0, .inl 0), (17, .getfield 324, 3, 0, 22, 0, .inl 0), (20, .bipush 16, 2, 0, 0, 0, .inl (nI 16)), (22, .iushr, 1, 0, 0, 0, .inl 0), (23, .iload_n 1, 1, 1, 0, 0, .inl 0), (24, .irem, 1, 0, 0, 0, .inl 0), (25, .ireturn, 1, 0, 0, 0, .inl 0)])
  | n => (n, [])
theorem ck_78 : ∀ pc, px_cks pn_i78 (bk_78 pc).1 pc (bk_78 pc).2 = true := by
  intro pc
  unfold bk_78
  split <;> first | decide +kernel | simp [px_cks]
/-- NoThreeModel.century(II)I -/
def bk_79 : Nat → Nat × List px_E := fun pc => match pc with
  | 0 => (20, [(0, .aload_n 0, 1, 0, 0, 0, .inl 0), (1, .iconst 0, 1, 0, 0, 0, .inl (nI 0)), (2, .putfield 1, 3, 0, 0, 0, .inl 0), (5, .iload_n 2, 1, 2, 0, 0, .inl 0), (6, .i2l, 1, 0, 0, 0, .inl 0), (7, .lconst 1, 1, 0, 0, 0, .inr (.inl (lN 1))), (8, .ldc2_w 327, 3, 0, 0, 0, .inr (.inl (lN 60))), (11, .invokestatic 141, 3, 2, 3, 0, .inl 0), (14, .ifCond .ne 6, 3, 20, 0, 0, .inl 0), (17, .bipush (-3), 2, 0, 0, 0, .inl (-3)), (19, .ireturn, 1, 0, 0, 0, .inl 0)])
  | 20 => (32, [(20, .aload_n 0, 1, 0, 0, 0, .inl 0), (21, .getfield 13, 3, 0, 1, 2, .inl 0), (24, .iconst 1, 1, 0, 0, 0, .inl (nI 1)), (25, .iaload, 1, 0, 0, 0, .inl 0), (26, .ifCond .ne 6, 3, 32, 0, 0, .inl 0), (29, .bipush (-5), 2, 0, 0, 0, .inl (-5)), (31, .ireturn, 1, 0, 0, 0, .inl 0)])
  | 32 => (39, [(32, .aload_n 0, 1, 0, 0, 0, .inl 0), (33, .iload_n 1, 1, 1, 0, 0, .inl 0), (34, .putfield 324, 3, 0, 22, 0, .inl 0), (37, .iconst 0, 1, 0, 0, 0, .inl (nI 0)), (38, .istore_n 3, 1, 3, 0, 0, .inl 0)])
  | 39 => (42, [(39, .iconst 0, 1, 0, 0, 0, .inl (nI 0)), (40, .istore 4, 2, 4, 0, 0, .inl 0)])
  | 42 => (72, [(42, .iload 4, 2, 4, 0, 0, .inl 0), (44, .iload_n 2, 1, 2, 0, 0, .inl 0), (45, .if_icmp .ge 121, 3, 166, 0, 0, .inl 0), (48, .aload_n 0, 1, 0, 0, 0, .inl 0), (49, .aload_n 0, 1, 0, 0, 0, .inl 0), (50, .getfield 13, 3, 0, 1, 2, .inl 0), (53, .iconst 1, 1, 0, 0, 0, .inl (nI 1)), (54, .iaload, 1, 0, 0, 0, .inl 0), (55, .invokevirtual 329, 3, 78, 2, 0, .inl 0), (58, .istore 5, 2, 5, 0, 0, .inl 0), (60, .aload_n 0, 1, 0, 0, 0, .inl 0), (61, .aload_n 0, 1, 0, 0, 0, .inl 0), (62, .getfield 13, 3, 0, 1, 2, .inl 0), (65, .iconst 1, 1, 0, 0, 0, .inl (nI 1)), (66, .iaload, 1, 0, 0, 0, .inl 0), (67, .invokevirtual 329, 3, 78, 2, 0, .inl 0), (70, .istore 6, 2, 6, 0, 0, .inl 0)])
  | 72 => (84, [(72, .aload_n 0, 1, 0, 0, 0, .inl 0), (73, .iconst 4, 1, 0, 0, 0, .inl (nI 4)), (74, .invokevirtual 329, 3, 78, 2, 0, .inl 0), (77, .ifCond .ne 7, 3, 84, 0, 0, .inl 0), (80, .iconst 1, 1, 0, 0, 0, .inl (nI 1)), (81, .goto 4, 3, 85, 0, 0, .inl 0)])
  | 84 => (85, [(84, .iconst 0, 1, 0, 0, 0, .inl (nI 0))])
  | 85 => (87, [(85, .istore 7, 2, 7, 0, 0, .inl 0)])
  | 87 => (110, [(87, .iload 7, 2, 7, 0, 0, .inl 0), (89, .ifCond .eq 21, 3, 110, 0, 0, .inl 0), (92, .aload_n 0, 1, 0, 0, 0, .inl 0), (93, .iload 5, 2, 5, 0, 0, .inl 0), (95, .invokevirtual 205, 3, 31, 2, 0, .inl 0), (98, .i2l, 1, 0, 0, 0, .inl 0), (99, .iload 6, 2, 6, 0, 0, .inl 0), (101, .invokestatic 151, 3, 14, 2, 0, .inl 0), (104, .ifCond .ne 22, 3, 126, 0, 0, .inl 0), (107, .goto 53, 3, 160, 0, 0, .inl 0)])
  | 110 => (126, [(110, .aload_n 0, 1, 0, 0, 0, .inl 0), (111, .iload 5, 2, 5, 0, 0, .inl 0), (113, .i2l, 1, 0, 0, 0, .inl 0), (114, .iload 6, 2, 6, 0, 0, .inl 0), (116, .i2l, 1, 0, 0, 0, .inl 0), (117, .invokevirtual 280, 3, 57, 3, 0, .inl 0), (120, .ifCond .eq 6, 3, 126, 0, 0, .inl 0), (123, .goto 37, 3, 160, 0, 0, .inl 0)])
  | 126 => (146, [(126, .aload_n 0, 1, 0, 0, 0, .inl 0), (127, .invokevirtual 284, 3, 58, 1, 0, .inl 0), (130, .iload 7, 2, 7, 0, 0, .inl 0), (132, .ifCond .eq 14, 3, 146, 0, 0, .inl 0), (135, .aload_n 0, 1, 0, 0, 0, .inl 0), (136, .iload 5, 2, 5, 0, 0, .inl 0), (138, .iload 6, 2, 6, 0, 0, .inl 0), (140, .invokevirtual 287, 3, 59, 3, 0, .inl 0), (143, .goto 14, 3, 157, 0, 0, .inl 0)])
  | 146 => (157, [(146, .aload_n 0, 1, 0, 0, 0, .inl 0), (147, .getfield 13, 3, 0, 1, 2, .inl 0), (150, .iload 5, 2, 5, 0, 0, .inl 0), (152, .iload 6, 2, 6, 0, 0, .inl 0), (154, .invokestatic 155, 3, 15, 3, 0, .inl 0)])
  | 157 => (160, [(157, .iinc 3 1, 3, 3, 0, 0, .inl (nI 1))])
  | 160 => (166, [(160, .iinc 4 1, 3, 4, 0, 0, .inl (nI 1)), (163, .goto (-121), 3, 42, 0, 0, .inl 0)])
  | 166 => (168, [(166, .iload_n 3, 1, 3, 0, 0, .inl 0), (167, .ireturn, 1, 0, 0, 0, .inl 0)])
  | n => (n, [])
theorem ck_79 : ∀ pc, px_cks pn_i79 (bk_79 pc).1 pc (bk_79 pc).2 = true := by
  intro pc
  unfold bk_79
  split <;> first | decide +kernel | simp [px_cks]
/-- NoThreeModel.three(I)I -/
def bk_80 : Nat → Nat × List px_E := fun pc => match pc with
  | 0 => (9, [(0, .aload_n 0, 1, 0, 0, 0, .inl 0), (1, .iconst 0, 1, 0, 0, 0, .inl (nI 0)), (2, .putfield 1, 3, 0, 0, 0, .inl 0), (5, .iconst 0, 1, 0, 0, 0, .inl (nI 0)), (6, .istore_n 2, 1, 2, 0, 0, .inl 0), (7, .iconst 0, 1, 0, 0, 0, .inl (nI 0)), (8, .istore_n 3, 1, 3, 0, 0, .inl 0)])
  | 9 => (24, [(9, .iload_n 3, 1, 3, 0, 0, .inl 0), (10, .aload_n 0, 1, 0, 0, 0, .inl 0), (11, .getfield 13, 3, 0, 1, 2, .inl 0), (14, .iconst 1, 1, 0, 0, 0, .inl (nI 1)), (15, .iaload, 1, 0, 0, 0, .inl 0), (16, .if_icmp .ge 123, 3, 139, 0, 0, .inl 0), (19, .iload_n 3, 1, 3, 0, 0, .inl 0), (20, .iconst 1, 1, 0, 0, 0, .inl (nI 1)), (21, .iadd, 1, 0, 0, 0, .inl 0), (22, .istore 4, 2, 4, 0, 0, .inl 0)])
  | 24 => (41, [(24, .iload 4, 2, 4, 0, 0, .inl 0), (26, .aload_n 0, 1, 0, 0, 0, .inl 0), (27, .getfield 13, 3, 0, 1, 2, .inl 0), (30, .iconst 1, 1, 0, 0, 0, .inl (nI 1)), (31, .iaload, 1, 0, 0, 0, .inl 0), (32, .if_icmp .ge 101, 3, 133, 0, 0, .inl 0), (35, .iload 4, 2, 4, 0, 0, .inl 0), (37, .iconst 1, 1, 0, 0, 0, .inl (nI 1)), (38, .iadd, 1, 0, 0, 0, .inl 0), (39, .istore 5, 2, 5, 0, 0, .inl 0)])
  | 41 => (66, [(41, .iload 5, 2, 5, 0, 0, .inl 0), (43, .aload_n 0, 1, 0, 0, 0, .inl 0), (44, .getfield 13, 3, 0, 1, 2, .inl 0), (47, .iconst 1, 1, 0, 0, 0, .inl (nI 1)), (48, .iaload, 1, 0, 0, 0, .inl 0), (49, .if_icmp .ge 78, 3, 127, 0, 0, .inl 0), (52, .aload_n 0, 1, 0, 0, 0, .inl 0), (53, .iload_n 3, 1, 3, 0, 0, .inl 0), (54, .invokevirtual 205, 3, 31, 2, 0, .inl 0), (57, .i2l, 1, 0, 0, 0, .inl 0), (58, .iload 4, 2, 4, 0, 0, .inl 0), (60, .invokestatic 151, 3, 14, 2, 0, .inl 0), (63, .ifCond .eq 58, 3, 121, 0, 0, .inl 0)])
  | 66 => (80, [(66, .aload_n 0, 1, 0, 0, 0, .inl 0), (67, .iload_n 3, 1, 3, 0, 0, .inl 0), (68, .invokevirtual 205, 3, 31, 2, 0, .inl 0), (71, .i2l, 1, 0, 0, 0, .inl 0), (72, .iload 5, 2, 5, 0, 0, .inl 0), (74, .invokestatic 151, 3, 14, 2, 0, .inl 0), (77, .ifCond .eq 44, 3, 121, 0, 0, .inl 0)])
  | 80 => (98, [(80, .aload_n 0, 1, 0, 0, 0, .inl 0), (81, .iload 4, 2, 4, 0, 0, .inl 0), (83, .invokevirtual 205, 3, 31, 2, 0, .inl 0), (86, .i2l, 1, 0, 0, 0, .inl 0), (87, .iload 5, 2, 5, 0, 0, .inl 0), (89, .invokestatic 151, 3, 14, 2, 0, .inl 0), (92, .ifCond .ne 6, 3, 98, 0, 0, .inl 0), (95, .goto 26, 3, 121, 0, 0, .inl 0)])
  | 98 => (118, [(98, .iload_n 2, 1, 2, 0, 0, .inl 0), (99, .iload_n 1, 1, 1, 0, 0, .inl 0), (100, .if_icmp .ne 18, 3, 118, 0, 0, .inl 0), (103, .sipush 10000, 3, 0, 0, 0, .inl (nI 10000)), (106, .iload_n 3, 1, 3, 0, 0, .inl 0), (107, .imul, 1, 0, 0, 0, .inl 0), (108, .bipush 100, 2, 0, 0, 0, .inl (nI 100)), (110, .iload 4, 2, 4, 0, 0, .inl 0), (112, .imul, 1, 0, 0, 0, .inl 0), (113, .iadd, 1, 0, 0, 0, .inl 0), (114, .iload 5, 2, 5, 0, 0, .inl 0), (116, .iadd, 1, 0, 0, 0, .inl 0), (117, .ireturn, 1, 0, 0, 0, .inl 0)])
  | 118 => (121, [(118, .iinc 2 1, 3, 2, 0, 0, .inl (nI 1))])
  | 121 => (127, [(121, .iinc 5 1, 3, 5, 0, 0, .inl (nI 1)), (124, .goto (-83), 3, 41, 0, 0, .inl 0)])
  | 127 => (133, [(127, .iinc 4 1, 3, 4, 0, 0, .inl (nI 1)), (130, .goto (-106), 3, 24, 0, 0, .inl 0)])
  | 133 => (139, [(133, .iinc 3 1, 3, 3, 0, 0, .inl (nI 1)), (136, .goto (-127), 3, 9, 0, 0, .inl 0)])
  | 139 => (148, [(139, .iload_n 1, 1, 1, 0, 0, .inl 0), (140, .iconst (-1), 1, 0, 0, 0, .inl (-1)), (141, .if_icmp .ne 7, 3, 148, 0, 0, .inl 0), (144, .iload_n 2, 1, 2, 0, 0, .inl 0), (145, .goto 4, 3, 149, 0, 0, .inl 0)])
  | 148 => (149, [(148, .iconst (-1), 1, 0, 0, 0, .inl (-1))])
  | 149 => (150, [(149, .ireturn, 1, 0, 0, 0, .inl 0)])
  | n => (n, [])
theorem ck_80 : ∀ pc, px_cks pn_i80 (bk_80 pc).1 pc (bk_80 pc).2 = true := by
  intro pc
  unfold bk_80
  split <;> first | decide +kernel | simp [px_cks]
/-- NoThreeModel.fours()I -/
def bk_81 : Nat → Nat × List px_E := fun pc => match pc with
  | 0 => (9, [(0, .aload_n 0, 1, 0, 0, 0, .inl 0), (1, .iconst 0, 1, 0, 0, 0, .inl (nI 0)), (2, .putfield 1, 3, 0, 0, 0, .inl 0), (5, .iconst 0, 1, 0, 0, 0, .inl (nI 0)), (6, .istore_n 1, 1, 1, 0, 0, .inl 0), (7, .iconst 0, 1, 0, 0, 0, .inl (nI 0)), (8, .istore_n 2, 1, 2, 0, 0, .inl 0)])
  | 9 => (27, [(9, .iload_n 2, 1, 2, 0, 0, .inl 0), (10, .aload_n 0, 1, 0, 0, 0, .inl 0), (11, .getfield 13, 3, 0, 1, 2, .inl 0), (14, .iconst 1, 1, 0, 0, 0, .inl (nI 1)), (15, .iaload, 1, 0, 0, 0, .inl 0), (16, .if_icmp .ge 17, 3, 33, 0, 0, .inl 0), (19, .iload_n 1, 1, 1, 0, 0, .inl 0), (20, .aload_n 0, 1, 0, 0, 0, .inl 0), (21, .iload_n 2, 1, 2, 0, 0, .inl 0), (22, .invokevirtual 221, 3, 34, 2, 0, .inl 0), (25, .iadd, 1, 0, 0, 0, .inl 0), (26, .istore_n 1, 1, 1, 0, 0, .inl 0)])
  | 27 => (33, [(27, .iinc 2 1, 3, 2, 0, 0, .inl (nI 1)), (30, .goto (-21), 3, 9, 0, 0, .inl 0)])
  | 33 => (37, [(33, .iload_n 1, 1, 1, 0, 0, .inl 0), (34, .iconst 4, 1, 0, 0, 0, .inl (nI 4)), (35, .idiv, 1, 0, 0, 0, .inl 0), (36, .ireturn, 1, 0, 0, 0, .inl 0)])
  | n => (n, [])
theorem ck_81 : ∀ pc, px_cks pn_i81 (bk_81 pc).1 pc (bk_81 pc).2 = true := by
  intro pc
  unfold bk_81
  split <;> first | decide +kernel | simp [px_cks]
/-- NoThreeModel.scandal()I -/
def bk_82 : Nat → Nat × List px_E := fun pc => match pc with
  | 0 => (10, [(0, .aload_n 0, 1, 0, 0, 0, .inl 0), (1, .iconst 0, 1, 0, 0, 0, .inl (nI 0)), (2, .putfield 1, 3, 0, 0, 0, .inl 0), (5, .bipush 99, 2, 0, 0, 0, .inl (nI 99)), (7, .istore_n 1, 1, 1, 0, 0, .inl 0), (8, .iconst 0, 1, 0, 0, 0, .inl (nI 0)), (9, .istore_n 2, 1, 2, 0, 0, .inl 0)])
  | 10 => (28, [(10, .iload_n 2, 1, 2, 0, 0, .inl 0), (11, .aload_n 0, 1, 0, 0, 0, .inl 0), (12, .getfield 13, 3, 0, 1, 2, .inl 0), (15, .iconst 1, 1, 0, 0, 0, .inl (nI 1)), (16, .iaload, 1, 0, 0, 0, .inl 0), (17, .if_icmp .ge 114, 3, 131, 0, 0, .inl 0), (20, .aload_n 0, 1, 0, 0, 0, .inl 0), (21, .iload_n 2, 1, 2, 0, 0, .inl 0), (22, .invokevirtual 211, 3, 35, 2, 0, .inl 0), (25, .pop, 1, 0, 0, 0, .inl 0), (26, .iconst 0, 1, 0, 0, 0, .inl (nI 0)), (27, .istore_n 3, 1, 3, 0, 0, .inl 0)])
  | 28 => (41, [(28, .iload_n 3, 1, 3, 0, 0, .inl 0), (29, .aload_n 0, 1, 0, 0, 0, .inl 0), (30, .getfield 13, 3, 0, 1, 2, .inl 0), (33, .iconst 1, 1, 0, 0, 0, .inl (nI 1)), (34, .iaload, 1, 0, 0, 0, .inl 0), (35, .if_icmp .ge 90, 3, 125, 0, 0, .inl 0), (38, .iconst 0, 1, 0, 0, 0, .inl (nI 0)), (39, .istore 4, 2, 4, 0, 0, .inl 0)])
  | 41 => (74, [(41, .iload 4, 2, 4, 0, 0, .inl 0), (43, .iload_n 3, 1, 3, 0, 0, .inl 0), (44, .if_icmp .ge 75, 3, 119, 0, 0, .inl 0), (47, .aload_n 0, 1, 0, 0, 0, .inl 0), (48, .getfield 30, 3, 0, 15, 2, .inl 0), (51, .iload_n 3, 1, 3, 0, 0, .inl 0), (52, .iaload, 1, 0, 0, 0, .inl 0), (53, .bipush 99, 2, 0, 0, 0, .inl (nI 99)), (55, .if_icmp .ge 58, 3, 113, 0, 0, .inl 0), (58, .aload_n 0, 1, 0, 0, 0, .inl 0), (59, .getfield 30, 3, 0, 15, 2, .inl 0), (62, .iload_n 3, 1, 3, 0, 0, .inl 0), (63, .iaload, 1, 0, 0, 0, .inl 0), (64, .aload_n 0, 1, 0, 0, 0, .inl 0), (65, .getfield 30, 3, 0, 15, 2, .inl 0), (68, .iload 4, 2, 4, 0, 0, .inl 0), (70, .iaload, 1, 0, 0, 0, .inl 0), (71, .if_icmp .ne 42, 3, 113, 0, 0, .inl 0)])
  | 74 => (88, [(74, .aload_n 0, 1, 0, 0, 0, .inl 0), (75, .iload_n 3, 1, 3, 0, 0, .inl 0), (76, .invokevirtual 205, 3, 31, 2, 0, .inl 0), (79, .i2l, 1, 0, 0, 0, .inl 0), (80, .iload 4, 2, 4, 0, 0, .inl 0), (82, .invokestatic 151, 3, 14, 2, 0, .inl 0), (85, .ifCond .eq 28, 3, 113, 0, 0, .inl 0)])
  | 88 => (113, [(88, .iconst 2, 1, 0, 0, 0, .inl (nI 2)), (89, .aload_n 0, 1, 0, 0, 0, .inl 0), (90, .getfield 30, 3, 0, 15, 2, .inl 0), (93, .iload_n 3, 1, 3, 0, 0, .inl 0), (94, .iaload, 1, 0, 0, 0, .inl 0), (95, .imul, 1, 0, 0, 0, .inl 0), (96, .iconst 1, 1, 0, 0, 0, .inl (nI 1)), (97, .iadd, 1, 0, 0, 0, .inl 0), (98, .iload_n 1, 1, 1, 0, 0, .inl 0), (99, .if_icmp .ge 14, 3, 113, 0, 0, .inl 0), (102, .iconst 2, 1, 0, 0, 0, .inl (nI 2)), (103, .aload_n 0, 1, 0, 0, 0, .inl 0), (104, .getfield 30, 3, 0, 15, 2, .inl 0), (107, .iload_n 3, 1, 3, 0, 0, .inl 0), (108, .iaload, 1, 0, 0, 0, .inl 0), (109, .imul, 1, 0, 0, 0, .inl 0), (110, .iconst 1, 1, 0, 0, 0, .inl (nI 1)), (111, .iadd, 1, 0, 0, 0, .inl 0), (112, .istore_n 1, 1, 1, 0, 0, .inl 0)])
  | 113 => (119, [(113, .iinc 4 1, 3, 4, 0, 0, .inl (nI 1)), (116, .goto (-75), 3, 41, 0, 0, .inl 0)])
  | 119 => (125, [(119, .iinc 3 1, 3, 3, 0, 0, .inl (nI 1)), (122, .goto (-94), 3, 28, 0, 0, .inl 0)])
  | 125 => (131, [(125, .iinc 2 1, 3, 2, 0, 0, .inl (nI 1)), (128, .goto (-118), 3, 10, 0, 0, .inl 0)])
  | 131 => (141, [(131, .iload_n 1, 1, 1, 0, 0, .inl 0), (132, .bipush 99, 2, 0, 0, 0, .inl (nI 99)), (134, .if_icmp .ne 7, 3, 141, 0, 0, .inl 0), (137, .iconst (-1), 1, 0, 0, 0, .inl (-1)), (138, .goto 4, 3, 142, 0, 0, .inl 0)])
  | 141 => (142, [(141, .iload_n 1, 1, 1, 0, 0, .inl 0)])
  | 142 => (143, [(142, .ireturn, 1, 0, 0, 0, .inl 0)])
  | n => (n, [])
theorem ck_82 : ∀ pc, px_cks pn_i82 (bk_82 pc).1 pc (bk_82 pc).2 = true := by
  intro pc
  unfold bk_82
  split <;> first | decide +kernel | simp [px_cks]
/-- NoThreeModel.halves()I -/
def bk_83 : Nat → Nat × List px_E := fun pc => match pc with
  | 0 => (10, [(0, .aload_n 0, 1, 0, 0, 0, .inl 0), (1, .iconst 0, 1, 0, 0, 0, .inl (nI 0)), (2, .putfield 1, 3, 0, 0, 0, .inl 0), (5, .aload_n 0, 1, 0, 0, 0, .inl 0), (6, .invokevirtual 246, 3, 44, 1, 0, .inl 0), (9, .ireturn, 1, 0, 0, 0, .inl 0)])
  | n => (n, [])
theorem ck_83 : ∀ pc, px_cks pn_i83 (bk_83 pc).1 pc (bk_83 pc).2 = true := by
  intro pc
  unfold bk_83
  split <;> first | decide +kernel | simp [px_cks]
/-- NoThreeModel.likes(IZ)I -/
def bk_84 : Nat → Nat × List px_E := fun pc => match pc with
  | 0 => (5, [(0, .iconst 0, 1, 0, 0, 0, .inl (nI 0)), (1, .istore_n 3, 1, 3, 0, 0, .inl 0), (2, .iconst 0, 1, 0, 0, 0, .inl (nI 0)), (3, .istore 4, 2, 4, 0, 0, .inl 0)])
  | 5 => (22, [(5, .iload 4, 2, 4, 0, 0, .inl 0), (7, .aload_n 0, 1, 0, 0, 0, .inl 0), (8, .getfield 13, 3, 0, 1, 2, .inl 0), (11, .iconst 1, 1, 0, 0, 0, .inl (nI 1)), (12, .iaload, 1, 0, 0, 0, .inl 0), (13, .if_icmp .ge 175, 3, 188, 0, 0, .inl 0), (16, .iload 4, 2, 4, 0, 0, .inl 0), (18, .iconst 1, 1, 0, 0, 0, .inl (nI 1)), (19, .iadd, 1, 0, 0, 0, .inl 0), (20, .istore 5, 2, 5, 0, 0, .inl 0)])
  | 22 => (39, [(22, .iload 5, 2, 5, 0, 0, .inl 0), (24, .aload_n 0, 1, 0, 0, 0, .inl 0), (25, .getfield 13, 3, 0, 1, 2, .inl 0), (28, .iconst 1, 1, 0, 0, 0, .inl (nI 1)), (29, .iaload, 1, 0, 0, 0, .inl 0), (30, .if_icmp .ge 152, 3, 182, 0, 0, .inl 0), (33, .iload 5, 2, 5, 0, 0, .inl 0), (35, .iconst 1, 1, 0, 0, 0, .inl (nI 1)), (36, .iadd, 1, 0, 0, 0, .inl 0), (37, .istore 6, 2, 6, 0, 0, .inl 0)])
  | 39 => (60, [(39, .iload 6, 2, 6, 0, 0, .inl 0), (41, .aload_n 0, 1, 0, 0, 0, .inl 0), (42, .getfield 13, 3, 0, 1, 2, .inl 0), (45, .iconst 1, 1, 0, 0, 0, .inl (nI 1)), (46, .iaload, 1, 0, 0, 0, .inl 0), (47, .if_icmp .ge 129, 3, 176, 0, 0, .inl 0), (50, .iload_n 1, 1, 1, 0, 0, .inl 0), (51, .i2l, 1, 0, 0, 0, .inl 0), (52, .iload 4, 2, 4, 0, 0, .inl 0), (54, .invokestatic 151, 3, 14, 2, 0, .inl 0), (57, .ifCond .eq 113, 3, 170, 0, 0, .inl 0)])
  | 60 => (70, [(60, .iload_n 1, 1, 1, 0, 0, .inl 0), (61, .i2l, 1, 0, 0, 0, .inl 0), (62, .iload 5, 2, 5, 0, 0, .inl 0), (64, .invokestatic 151, 3, 14, 2, 0, .inl 0), (67, .ifCond .eq 103, 3, 170, 0, 0, .inl 0)])
  | 70 => (83, [(70, .iload_n 1, 1, 1, 0, 0, .inl 0), (71, .i2l, 1, 0, 0, 0, .inl 0), (72, .iload 6, 2, 6, 0, 0, .inl 0), (74, .invokestatic 151, 3, 14, 2, 0, .inl 0), (77, .ifCond .ne 6, 3, 83, 0, 0, .inl 0), (80, .goto 90, 3, 170, 0, 0, .inl 0)])
  | 83 => (98, [(83, .aload_n 0, 1, 0, 0, 0, .inl 0), (84, .iload 4, 2, 4, 0, 0, .inl 0), (86, .invokevirtual 205, 3, 31, 2, 0, .inl 0), (89, .i2l, 1, 0, 0, 0, .inl 0), (90, .iload 5, 2, 5, 0, 0, .inl 0), (92, .invokestatic 151, 3, 14, 2, 0, .inl 0), (95, .ifCond .eq 7, 3, 102, 0, 0, .inl 0)])
  | 98 => (102, [(98, .iconst 1, 1, 0, 0, 0, .inl (nI 1)), (99, .goto 4, 3, 103, 0, 0, .inl 0)])
  | 102 => (103, [(102, .iconst 0, 1, 0, 0, 0, .inl (nI 0))])
  | 103 => (122, [(103, .aload_n 0, 1, 0, 0, 0, .inl 0), (104, .iload 4, 2, 4, 0, 0, .inl 0), (106, .invokevirtual 205, 3, 31, 2, 0, .inl 0), (109, .i2l, 1, 0, 0, 0, .inl 0), (110, .iload 6, 2, 6, 0, 0, .inl 0), (112, .invokestatic 151, 3, 14, 2, 0, .inl 0), (115, .ifCond .eq 7, 3, 122, 0, 0, .inl 0), (118, .iconst 1, 1, 0, 0, 0, .inl (nI 1)), (119, .goto 4, 3, 123, 0, 0, .inl 0)])
  | 122 => (123, [(122, .iconst 0, 1, 0, 0, 0, .inl (nI 0))])
  | 123 => (143, [(123, .iadd, 1, 0, 0, 0, .inl 0), (124, .aload_n 0, 1, 0, 0, 0, .inl 0), (125, .iload 5, 2, 5, 0, 0, .inl 0), (127, .invokevirtual 205, 3, 31, 2, 0, .inl 0), (130, .i2l, 1, 0, 0, 0, .inl 0), (131, .iload 6, 2, 6, 0, 0, .inl 0), (133, .invokestatic 151, 3, 14, 2, 0, .inl 0), (136, .ifCond .eq 7, 3, 143, 0, 0, .inl 0), (139, .iconst 1, 1, 0, 0, 0, .inl (nI 1)), (140, .goto 4, 3, 144, 0, 0, .inl 0)])
  | 143 => (144, [(143, .iconst 0, 1, 0, 0, 0, .inl (nI 0))])
  | 144 => (147, [(144, .iadd, 1, 0, 0, 0, .inl 0), (145, .istore 7, 2, 7, 0, 0, .inl 0)])
  | 147 => (163, [(147, .iload_n 3, 1, 3, 0, 0, .inl 0), (148, .iload 7, 2, 7, 0, 0, .inl 0), (150, .ifCond .eq 13, 3, 163, 0, 0, .inl 0), (153, .iload_n 2, 1, 2, 0, 0, .inl 0), (154, .ifCond .eq 13, 3, 167, 0, 0, .inl 0), (157, .iload 7, 2, 7, 0, 0, .inl 0), (159, .iconst 3, 1, 0, 0, 0, .inl (nI 3)), (160, .if_icmp .ne 7, 3, 167, 0, 0, .inl 0)])
  | 163 => (167, [(163, .iconst 1, 1, 0, 0, 0, .inl (nI 1)), (164, .goto 4, 3, 168, 0, 0, .inl 0)])
  | 167 => (168, [(167, .iconst 0, 1, 0, 0, 0, .inl (nI 0))])
  | 168 => (170, [(168, .iadd, 1, 0, 0, 0, .inl 0), (169, .istore_n 3, 1, 3, 0, 0, .inl 0)])
  | 170 => (176, [(170, .iinc 6 1, 3, 6, 0, 0, .inl (nI 1)), (173, .goto (-134), 3, 39, 0, 0, .inl 0)])
  | 176 => (182, [(176, .iinc 5 1, 3, 5, 0, 0, .inl (nI 1)), (179, .goto (-157), 3, 22, 0, 0, .inl 0)])
  | 182 => (188, [(182, .iinc 4 1, 3, 4, 0, 0, .inl (nI 1)), (185, .goto (-180), 3, 5, 0, 0, .inl 0)])
  | 188 => (190, [(188, .iload_n 3, 1, 3, 0, 0, .inl 0), (189, .ireturn, 1, 0, 0, 0, .inl 0)])
  | n => (n, [])
theorem ck_84 : ∀ pc, px_cks pn_i84 (bk_84 pc).1 pc (bk_84 pc).2 = true := by
  intro pc
  unfold bk_84
  split <;> first | decide +kernel | simp [px_cks]
/-- NoThreeModel.strangers()I -/
def bk_85 : Nat → Nat × List px_E := fun pc => match pc with
  | 0 => (21, [(0, .aload_n 0, 1, 0, 0, 0, .inl 0), (1, .iconst 0, 1, 0, 0, 0, .inl (nI 0)), (2, .putfield 1, 3, 0, 0, 0, .inl 0), (5, .aload_n 0, 1, 0, 0, 0, .inl 0), (6, .iconst 1, 1, 0, 0, 0, .inl (nI 1)), (7, .aload_n 0, 1, 0, 0, 0, .inl 0), (8, .getfield 13, 3, 0, 1, 2, .inl 0), (11, .iconst 1, 1, 0, 0, 0, .inl (nI 1)), (12, .iaload, 1, 0, 0, 0, .inl 0), (13, .ishl, 1, 0, 0, 0, .inl 0), (14, .iconst 1, 1, 0, 0, 0, .inl (nI 1)), (15, .isub, 1, 0, 0, 0, .inl 0), (16, .iconst 0, 1, 0, 0, 0, .inl (nI 0)), (17, .invokevirtual 332, 3, 84, 3, 0, .inl 0), (20, .ireturn, 1, 0, 0, 0, .inl 0)])
  | n => (n, [])
theorem ck_85 : ∀ pc, px_cks pn_i85 (bk_85 pc).1 pc (bk_85 pc).2 = true := by
  intro pc
  unfold bk_85
  split <;> first | decide +kernel | simp [px_cks]
/-- NoThreeModel.six(I)I -/
def bk_86 : Nat → Nat × List px_E := fun pc => match pc with
  | 0 => (18, [(0, .aload_n 0, 1, 0, 0, 0, .inl 0), (1, .iconst 0, 1, 0, 0, 0, .inl (nI 0)), (2, .putfield 1, 3, 0, 0, 0, .inl 0), (5, .iload_n 1, 1, 1, 0, 0, .inl 0), (6, .i2l, 1, 0, 0, 0, .inl 0), (7, .lconst 0, 1, 0, 0, 0, .inr (.inl (lN 0))), (8, .lconst 1, 1, 0, 0, 0, .inr (.inl (lN 1))), (9, .invokestatic 141, 3, 2, 3, 0, .inl 0), (12, .ifCond .ne 6, 3, 18, 0, 0, .inl 0), (15, .bipush (-2), 2, 0, 0, 0, .inl (-2)), (17, .ireturn, 1, 0, 0, 0, .inl 0)])
  | 18 => (25, [(18, .iconst (-1), 1, 0, 0, 0, .inl (-1)), (19, .istore_n 2, 1, 2, 0, 0, .inl 0), (20, .iconst 0, 1, 0, 0, 0, .inl (nI 0)), (21, .istore_n 3, 1, 3, 0, 0, .inl 0), (22, .iconst 0, 1, 0, 0, 0, .inl (nI 0)), (23, .istore 4, 2, 4, 0, 0, .inl 0)])
  | 25 => (51, [(25, .iload 4, 2, 4, 0, 0, .inl 0), (27, .iconst 1, 1, 0, 0, 0, .inl (nI 1)), (28, .aload_n 0, 1, 0, 0, 0, .inl 0), (29, .getfield 13, 3, 0, 1, 2, .inl 0), (32, .iconst 1, 1, 0, 0, 0, .inl (nI 1)), (33, .iaload, 1, 0, 0, 0, .inl 0), (34, .ishl, 1, 0, 0, 0, .inl 0), (35, .if_icmp .ge 51, 3, 86, 0, 0, .inl 0), (38, .iload 4, 2, 4, 0, 0, .inl 0), (40, .invokestatic 208, 3, 32, 1, 0, .inl 0), (43, .bipush 6, 2, 0, 0, 0, .inl (nI 6)), (45, .if_icmp .eq 6, 3, 51, 0, 0, .inl 0), (48, .goto 32, 3, 80, 0, 0, .inl 0)])
  | 51 => (74, [(51, .aload_n 0, 1, 0, 0, 0, .inl 0), (52, .iload 4, 2, 4, 0, 0, .inl 0), (54, .iconst 1, 1, 0, 0, 0, .inl (nI 1)), (55, .invokevirtual 332, 3, 84, 3, 0, .inl 0), (58, .istore 5, 2, 5, 0, 0, .inl 0), (60, .iload_n 2, 1, 2, 0, 0, .inl 0), (61, .iconst (-1), 1, 0, 0, 0, .inl (-1)), (62, .if_icmp .eq 12, 3, 74, 0, 0, .inl 0), (65, .iload 5, 2, 5, 0, 0, .inl 0), (67, .iload_n 3, 1, 3, 0, 0, .inl 0), (68, .if_icmp .lt 6, 3, 74, 0, 0, .inl 0), (71, .goto 9, 3, 80, 0, 0, .inl 0)])
  | 74 => (80, [(74, .iload 4, 2, 4, 0, 0, .inl 0), (76, .istore_n 2, 1, 2, 0, 0, .inl 0), (77, .iload 5, 2, 5, 0, 0, .inl 0), (79, .istore_n 3, 1, 3, 0, 0, .inl 0)])
  | 80 => (86, [(80, .iinc 4 1, 3, 4, 0, 0, .inl (nI 1)), (83, .goto (-58), 3, 25, 0, 0, .inl 0)])
  | 86 => (96, [(86, .iload_n 2, 1, 2, 0, 0, .inl 0), (87, .iconst (-1), 1, 0, 0, 0, .inl (-1)), (88, .if_icmp .eq 8, 3, 96, 0, 0, .inl 0), (91, .iload_n 1, 1, 1, 0, 0, .inl 0), (92, .iconst 1, 1, 0, 0, 0, .inl (nI 1)), (93, .if_icmp .ne 7, 3, 100, 0, 0, .inl 0)])
  | 96 => (100, [(96, .iload_n 2, 1, 2, 0, 0, .inl 0), (97, .goto 4, 3, 101, 0, 0, .inl 0)])
  | 100 => (101, [(100, .iload_n 3, 1, 3, 0, 0, .inl 0)])
  | 101 => (102, [(101, .ireturn, 1, 0, 0, 0, .inl 0)])
  | n => (n, [])
theorem ck_86 : ∀ pc, px_cks pn_i86 (bk_86 pc).1 pc (bk_86 pc).2 = true := by
  intro pc
  unfold bk_86
  split <;> first | decide +kernel | simp [px_cks]
/-- NoThreeModel.feasts()I -/
def bk_87 : Nat → Nat × List px_E := fun pc => match pc with
  | 0 => (9, [(0, .aload_n 0, 1, 0, 0, 0, .inl 0), (1, .iconst 0, 1, 0, 0, 0, .inl (nI 0)), (2, .putfield 1, 3, 0, 0, 0, .inl 0), (5, .iconst 0, 1, 0, 0, 0, .inl (nI 0)), (6, .istore_n 1, 1, 1, 0, 0, .inl 0), (7, .iconst 0, 1, 0, 0, 0, .inl (nI 0)), (8, .istore_n 2, 1, 2, 0, 0, .inl 0)])
  | 9 => (34, [(9, .iload_n 2, 1, 2, 0, 0, .inl 0), (10, .iconst 1, 1, 0, 0, 0, .inl (nI 1)), (11, .aload_n 0, 1, 0, 0, 0, .inl 0), (12, .getfield 13, 3, 0, 1, 2, .inl 0), (15, .iconst 1, 1, 0, 0, 0, .inl (nI 1)), (16, .iaload, 1, 0, 0, 0, .inl 0), (17, .ishl, 1, 0, 0, 0, .inl 0), (18, .if_icmp .ge 25, 3, 43, 0, 0, .inl 0), (21, .iload_n 1, 1, 1, 0, 0, .inl 0), (22, .aload_n 0, 1, 0, 0, 0, .inl 0), (23, .iload_n 2, 1, 2, 0, 0, .inl 0), (24, .invokevirtual 230, 3, 40, 2, 0, .inl 0), (27, .ifCond .eq 7, 3, 34, 0, 0, .inl 0), (30, .iconst 1, 1, 0, 0, 0, .inl (nI 1)), (31, .goto 4, 3, 35, 0, 0, .inl 0)])
  | 34 => (35, [(34, .iconst 0, 1, 0, 0, 0, .inl (nI 0))])
  | 35 => (37, [(35, .iadd, 1, 0, 0, 0, .inl 0), (36, .istore_n 1, 1, 1, 0, 0, .inl 0)])
  | 37 => (43, [(37, .iinc 2 1, 3, 2, 0, 0, .inl (nI 1)), (40, .goto (-31), 3, 9, 0, 0, .inl 0)])
  | 43 => (45, [(43, .iload_n 1, 1, 1, 0, 0, .inl 0), (44, .ireturn, 1, 0, 0, 0, .inl 0)])
  | n => (n, [])
theorem ck_87 : ∀ pc, px_cks pn_i87 (bk_87 pc).1 pc (bk_87 pc).2 = true := by
  intro pc
  unfold bk_87
  split <;> first | decide +kernel | simp [px_cks]
/-- NoThreeModel.isFull(I)Z -/
def bk_88 : Nat → Nat × List px_E := fun pc => match pc with
  | 0 => (10, [(0, .aload_n 0, 1, 0, 0, 0, .inl 0), (1, .iload_n 1, 1, 1, 0, 0, .inl 0), (2, .invokevirtual 230, 3, 40, 2, 0, .inl 0), (5, .ifCond .ne 5, 3, 10, 0, 0, .inl 0), (8, .iconst 0, 1, 0, 0, 0, .inl (nI 0)), (9, .ireturn, 1, 0, 0, 0, .inl 0)])
  | 10 => (12, [(10, .iconst 0, 1, 0, 0, 0, .inl (nI 0)), (11, .istore_n 2, 1, 2, 0, 0, .inl 0)])
  | 12 => (43, [(12, .iload_n 2, 1, 2, 0, 0, .inl 0), (13, .aload_n 0, 1, 0, 0, 0, .inl 0), (14, .getfield 13, 3, 0, 1, 2, .inl 0), (17, .iconst 1, 1, 0, 0, 0, .inl (nI 1)), (18, .iaload, 1, 0, 0, 0, .inl 0), (19, .if_icmp .ge 30, 3, 49, 0, 0, .inl 0), (22, .iload_n 1, 1, 1, 0, 0, .inl 0), (23, .i2l, 1, 0, 0, 0, .inl 0), (24, .iload_n 2, 1, 2, 0, 0, .inl 0), (25, .invokestatic 151, 3, 14, 2, 0, .inl 0), (28, .ifCond .ne 15, 3, 43, 0, 0, .inl 0), (31, .aload_n 0, 1, 0, 0, 0, .inl 0), (32, .iload_n 2, 1, 2, 0, 0, .inl 0), (33, .invokevirtual 205, 3, 31, 2, 0, .inl 0), (36, .iload_n 1, 1, 1, 0, 0, .inl 0), (37, .iand, 1, 0, 0, 0, .inl 0), (38, .ifCond .ne 5, 3, 43, 0, 0, .inl 0), (41, .iconst 0, 1, 0, 0, 0, .inl (nI 0)), (42, .ireturn, 1, 0, 0, 0, .inl 0)])
  | 43 => (49, [(43, .iinc 2 1, 3, 2, 0, 0, .inl (nI 1)), (46, .goto (-34), 3, 12, 0, 0, .inl 0)])
  | 49 => (51, [(49, .iconst 1, 1, 0, 0, 0, .inl (nI 1)), (50, .ireturn, 1, 0, 0, 0, .inl 0)])
  | n => (n, [])
theorem ck_88 : ∀ pc, px_cks pn_i88 (bk_88 pc).1 pc (bk_88 pc).2 = true := by
  intro pc
  unfold bk_88
  split <;> first | decide +kernel | simp [px_cks]
/-- NoThreeModel.full()I -/
def bk_89 : Nat → Nat × List px_E := fun pc => match pc with
  | 0 => (9, [(0, .aload_n 0, 1, 0, 0, 0, .inl 0), (1, .iconst 0, 1, 0, 0, 0, .inl (nI 0)), (2, .putfield 1, 3, 0, 0, 0, .inl 0), (5, .iconst 0, 1, 0, 0, 0, .inl (nI 0)), (6, .istore_n 1, 1, 1, 0, 0, .inl 0), (7, .iconst 0, 1, 0, 0, 0, .inl (nI 0)), (8, .istore_n 2, 1, 2, 0, 0, .inl 0)])
  | 9 => (34, [(9, .iload_n 2, 1, 2, 0, 0, .inl 0), (10, .iconst 1, 1, 0, 0, 0, .inl (nI 1)), (11, .aload_n 0, 1, 0, 0, 0, .inl 0), (12, .getfield 13, 3, 0, 1, 2, .inl 0), (15, .iconst 1, 1, 0, 0, 0, .inl (nI 1)), (16, .iaload, 1, 0, 0, 0, .inl 0), (17, .ishl, 1, 0, 0, 0, .inl 0), (18, .if_icmp .ge 25, 3, 43, 0, 0, .inl 0), (21, .iload_n 1, 1, 1, 0, 0, .inl 0), (22, .aload_n 0, 1, 0, 0, 0, .inl 0), (23, .iload_n 2, 1, 2, 0, 0, .inl 0), (24, .invokevirtual 335, 3, 88, 2, 0, .inl 0), (27, .ifCond .eq 7, 3, 34, 0, 0, .inl 0), (30, .iconst 1, 1, 0, 0, 0, .inl (nI 1)), (31, .goto 4, 3, 35, 0, 0, .inl 0)])
  | 34 => (35, [(34, .iconst 0, 1, 0, 0, 0, .inl (nI 0))])
  | 35 => (37, [(35, .iadd, 1, 0, 0, 0, .inl 0), (36, .istore_n 1, 1, 1, 0, 0, .inl 0)])
  | 37 => (43, [(37, .iinc 2 1, 3, 2, 0, 0, .inl (nI 1)), (40, .goto (-31), 3, 9, 0, 0, .inl 0)])
  | 43 => (45, [(43, .iload_n 1, 1, 1, 0, 0, .inl 0), (44, .ireturn, 1, 0, 0, 0, .inl 0)])
  | n => (n, [])
theorem ck_89 : ∀ pc, px_cks pn_i89 (bk_89 pc).1 pc (bk_89 pc).2 = true := by
  intro pc
  unfold bk_89
  split <;> first | decide +kernel | simp [px_cks]
/-- NoThreeModel.feast(I)I -/
def bk_90 : Nat → Nat × List px_E := fun pc => match pc with
  | 0 => (22, [(0, .aload_n 0, 1, 0, 0, 0, .inl 0), (1, .iconst 0, 1, 0, 0, 0, .inl (nI 0)), (2, .putfield 1, 3, 0, 0, 0, .inl 0), (5, .iload_n 1, 1, 1, 0, 0, .inl 0), (6, .iconst (-1), 1, 0, 0, 0, .inl (-1)), (7, .if_icmp .eq 15, 3, 22, 0, 0, .inl 0), (10, .aload_n 0, 1, 0, 0, 0, .inl 0), (11, .iload_n 1, 1, 1, 0, 0, .inl 0), (12, .i2l, 1, 0, 0, 0, .inl 0), (13, .invokevirtual 214, 3, 30, 2, 0, .inl 0), (16, .ifCond .ne 6, 3, 22, 0, 0, .inl 0), (19, .bipush (-2), 2, 0, 0, 0, .inl (-2)), (21, .ireturn, 1, 0, 0, 0, .inl 0)])
  | 22 => (32, [(22, .aload_n 0, 1, 0, 0, 0, .inl 0), (23, .iload_n 1, 1, 1, 0, 0, .inl 0), (24, .iconst (-1), 1, 0, 0, 0, .inl (-1)), (25, .if_icmp .ne 7, 3, 32, 0, 0, .inl 0), (28, .iconst 0, 1, 0, 0, 0, .inl (nI 0)), (29, .goto 6, 3, 35, 0, 0, .inl 0)])
  | 32 => (35, [(32, .iconst 1, 1, 0, 0, 0, .inl (nI 1)), (33, .iload_n 1, 1, 1, 0, 0, .inl 0), (34, .ishl, 1, 0, 0, 0, .inl 0)])
  | 35 => (39, [(35, .invokevirtual 240, 3, 41, 2, 0, .inl 0), (38, .ireturn, 1, 0, 0, 0, .inl 0)])
  | n => (n, [])
theorem ck_90 : ∀ pc, px_cks pn_i90 (bk_90 pc).1 pc (bk_90 pc).2 = true := by
  intro pc
  unfold bk_90
  split <;> first | decide +kernel | simp [px_cks]
/-- NoThreeModel.colours()I -/
def bk_91 : Nat → Nat × List px_E := fun pc => match pc with
  | 0 => (11, [(0, .aload_n 0, 1, 0, 0, 0, .inl 0), (1, .iconst 0, 1, 0, 0, 0, .inl (nI 0)), (2, .putfield 1, 3, 0, 0, 0, .inl 0), (5, .aload_n 0, 1, 0, 0, 0, .inl 0), (6, .iconst (-1), 1, 0, 0, 0, .inl (-1)), (7, .invokevirtual 243, 3, 43, 2, 0, .inl 0), (10, .ireturn, 1, 0, 0, 0, .inl 0)])
  | n => (n, [])
theorem ck_91 : ∀ pc, px_cks pn_i91 (bk_91 pc).1 pc (bk_91 pc).2 = true := by
  intro pc
  unfold bk_91
  split <;> first | decide +kernel | simp [px_cks]
/-- NoThreeModel.colour(I)I -/
def bk_92 : Nat → Nat × List px_E := fun pc => match pc with
  | 0 => (17, [(0, .aload_n 0, 1, 0, 0, 0, .inl 0), (1, .iconst 0, 1, 0, 0, 0, .inl (nI 0)), (2, .putfield 1, 3, 0, 0, 0, .inl 0), (5, .aload_n 0, 1, 0, 0, 0, .inl 0), (6, .iload_n 1, 1, 1, 0, 0, .inl 0), (7, .i2l, 1, 0, 0, 0, .inl 0), (8, .invokevirtual 214, 3, 30, 2, 0, .inl 0), (11, .ifCond .ne 6, 3, 17, 0, 0, .inl 0), (14, .bipush (-2), 2, 0, 0, 0, .inl (-2)), (16, .ireturn, 1, 0, 0, 0, .inl 0)])
  | 17 => (30, [(17, .aload_n 0, 1, 0, 0, 0, .inl 0), (18, .iconst (-1), 1, 0, 0, 0, .inl (-1)), (19, .invokevirtual 243, 3, 43, 2, 0, .inl 0), (22, .pop, 1, 0, 0, 0, .inl 0), (23, .aload_n 0, 1, 0, 0, 0, .inl 0), (24, .getfield 33, 3, 0, 16, 2, .inl 0), (27, .iload_n 1, 1, 1, 0, 0, .inl 0), (28, .iaload, 1, 0, 0, 0, .inl 0), (29, .ireturn, 1, 0, 0, 0, .inl 0)])
  | n => (n, [])
theorem ck_92 : ∀ pc, px_cks pn_i92 (bk_92 pc).1 pc (bk_92 pc).2 = true := by
  intro pc
  unfold bk_92
  split <;> first | decide +kernel | simp [px_cks]
/-- NoThreeModel.ways(I)J -/
def bk_93 : Nat → Nat × List px_E := fun pc => match pc with
  | 0 => (21, [(0, .aload_n 0, 1, 0, 0, 0, .inl 0), (1, .iconst 0, 1, 0, 0, 0, .inl (nI 0)), (2, .putfield 1, 3, 0, 0, 0, .inl 0), (5, .iload_n 1, 1, 1, 0, 0, .inl 0), (6, .i2l, 1, 0, 0, 0, .inl 0), (7, .lconst 0, 1, 0, 0, 0, .inr (.inl (lN 0))), (8, .ldc2_w 338, 3, 0, 0, 0, .inr (.inl (lN 6))), (11, .invokestatic 141, 3, 2, 3, 0, .inl 0), (14, .ifCond .ne 7, 3, 21, 0, 0, .inl 0), (17, .ldc2_w 340, 3, 0, 0, 0, .inr (.inl (-3))), (20, .lreturn, 1, 0, 0, 0, .inl 0)])
  | 21 => (23, [(21, .iconst 0, 1, 0, 0, 0, .inl (nI 0)), (22, .istore_n 2, 1, 2, 0, 0, .inl 0)])
  | 23 => (48, [(23, .iload_n 2, 1, 2, 0, 0, .inl 0), (24, .iconst 1, 1, 0, 0, 0, .inl (nI 1)), (25, .aload_n 0, 1, 0, 0, 0, .inl 0), (26, .getfield 13, 3, 0, 1, 2, .inl 0), (29, .iconst 1, 1, 0, 0, 0, .inl (nI 1)), (30, .iaload, 1, 0, 0, 0, .inl 0), (31, .ishl, 1, 0, 0, 0, .inl 0), (32, .if_icmp .ge 24, 3, 56, 0, 0, .inl 0), (35, .aload_n 0, 1, 0, 0, 0, .inl 0), (36, .getfield 48, 3, 0, 23, 2, .inl 0), (39, .iload_n 2, 1, 2, 0, 0, .inl 0), (40, .iload_n 2, 1, 2, 0, 0, .inl 0), (41, .ifCond .ne 7, 3, 48, 0, 0, .inl 0), (44, .lconst 1, 1, 0, 0, 0, .inr (.inl (lN 1))), (45, .goto 4, 3, 49, 0, 0, .inl 0)])
  | 48 => (49, [(48, .lconst 0, 1, 0, 0, 0, .inr (.inl (lN 0)))])
  | 49 => (56, [(49, .lastore, 1, 0, 0, 0, .inl 0), (50, .iinc 2 1, 3, 2, 0, 0, .inl (nI 1)), (53, .goto (-30), 3, 23, 0, 0, .inl 0)])
  | 56 => (58, [(56, .iconst 0, 1, 0, 0, 0, .inl (nI 0)), (57, .istore_n 2, 1, 2, 0, 0, .inl 0)])
  | 58 => (65, [(58, .iload_n 2, 1, 2, 0, 0, .inl 0), (59, .iload_n 1, 1, 1, 0, 0, .inl 0), (60, .if_icmp .ge 121, 3, 181, 0, 0, .inl 0), (63, .iconst 0, 1, 0, 0, 0, .inl (nI 0)), (64, .istore_n 3, 1, 3, 0, 0, .inl 0)])
  | 65 => (92, [(65, .iload_n 3, 1, 3, 0, 0, .inl 0), (66, .iconst 1, 1, 0, 0, 0, .inl (nI 1)), (67, .aload_n 0, 1, 0, 0, 0, .inl 0), (68, .getfield 13, 3, 0, 1, 2, .inl 0), (71, .iconst 1, 1, 0, 0, 0, .inl (nI 1)), (72, .iaload, 1, 0, 0, 0, .inl 0), (73, .ishl, 1, 0, 0, 0, .inl 0), (74, .if_icmp .ge 69, 3, 143, 0, 0, .inl 0), (77, .aload_n 0, 1, 0, 0, 0, .inl 0), (78, .getfield 52, 3, 0, 24, 2, .inl 0), (81, .iload_n 3, 1, 3, 0, 0, .inl 0), (82, .aload_n 0, 1, 0, 0, 0, .inl 0), (83, .getfield 48, 3, 0, 23, 2, .inl 0), (86, .iload_n 3, 1, 3, 0, 0, .inl 0), (87, .laload, 1, 0, 0, 0, .inl 0), (88, .lastore, 1, 0, 0, 0, .inl 0), (89, .iload_n 3, 1, 3, 0, 0, .inl 0), (90, .istore 4, 2, 4, 0, 0, .inl 0)])
  | 92 => (126, [(92, .iload 4, 2, 4, 0, 0, .inl 0), (94, .ifCond .le 43, 3, 137, 0, 0, .inl 0), (97, .aload_n 0, 1, 0, 0, 0, .inl 0), (98, .iload 4, 2, 4, 0, 0, .inl 0), (100, .invokevirtual 230, 3, 40, 2, 0, .inl 0), (103, .ifCond .eq 23, 3, 126, 0, 0, .inl 0), (106, .aload_n 0, 1, 0, 0, 0, .inl 0), (107, .getfield 52, 3, 0, 24, 2, .inl 0), (110, .iload_n 3, 1, 3, 0, 0, .inl 0), (111, .dup2, 1, 0, 0, 0, .inl 0), (112, .laload, 1, 0, 0, 0, .inl 0), (113, .aload_n 0, 1, 0, 0, 0, .inl 0), (114, .getfield 48, 3, 0, 23, 2, .inl 0), (117, .iload_n 3, 1, 3, 0, 0, .inl 0), (118, .iload 4, 2, 4, 0, 0, .inl 0), (120, .iconst (-1), 1, 0, 0, 0, .inl (-1)), (121, .ixor, 1, 0, 0, 0, .inl 0), (122, .iand, 1, 0, 0, 0, .inl 0), (123, .laload, 1, 0, 0, 0, .inl 0), (124, .ladd, 1, 0, 0, 0, .inl 0), (125, .lastore, 1, 0, 0, 0, .inl 0)])
  | 126 => (137, [(126, .iload 4, 2, 4, 0, 0, .inl 0), (128, .iconst 1, 1, 0, 0, 0, .inl (nI 1)), (129, .isub, 1, 0, 0, 0, .inl 0), (130, .iload_n 3, 1, 3, 0, 0, .inl 0), (131, .iand, 1, 0, 0, 0, .inl 0), (132, .istore 4, 2, 4, 0, 0, .inl 0), (134, .goto (-42), 3, 92, 0, 0, .inl 0)])
  | 137 => (143, [(137, .iinc 3 1, 3, 3, 0, 0, .inl (nI 1)), (140, .goto (-75), 3, 65, 0, 0, .inl 0)])
  | 143 => (145, [(143, .iconst 0, 1, 0, 0, 0, .inl (nI 0)), (144, .istore_n 3, 1, 3, 0, 0, .inl 0)])
  | 145 => (175, [(145, .iload_n 3, 1, 3, 0, 0, .inl 0), (146, .iconst 1, 1, 0, 0, 0, .inl (nI 1)), (147, .aload_n 0, 1, 0, 0, 0, .inl 0), (148, .getfield 13, 3, 0, 1, 2, .inl 0), (151, .iconst 1, 1, 0, 0, 0, .inl (nI 1)), (152, .iaload, 1, 0, 0, 0, .inl 0), (153, .ishl, 1, 0, 0, 0, .inl 0), (154, .if_icmp .ge 21, 3, 175, 0, 0, .inl 0), (157, .aload_n 0, 1, 0, 0, 0, .inl 0), (158, .getfield 48, 3, 0, 23, 2, .inl 0), (161, .iload_n 3, 1, 3, 0, 0, .inl 0), (162, .aload_n 0, 1, 0, 0, 0, .inl 0), (163, .getfield 52, 3, 0, 24, 2, .inl 0), (166, .iload_n 3, 1, 3, 0, 0, .inl 0), (167, .laload, 1, 0, 0, 0, .inl 0), (168, .lastore, 1, 0, 0, 0, .inl 0), (169, .iinc 3 1, 3, 3, 0, 0, .inl (nI 1)), (172, .goto (-27), 3, 145, 0, 0, .inl 0)])
  | 175 => (181, [(175, .iinc 2 1, 3, 2, 0, 0, .inl (nI 1)), (178, .goto (-120), 3, 58, 0, 0, .inl 0)])
  | 181 => (197, [(181, .aload_n 0, 1, 0, 0, 0, .inl 0), (182, .getfield 48, 3, 0, 23, 2, .inl 0), (185, .iconst 1, 1, 0, 0, 0, .inl (nI 1)), (186, .aload_n 0, 1, 0, 0, 0, .inl 0), (187, .getfield 13, 3, 0, 1, 2, .inl 0), (190, .iconst 1, 1, 0, 0, 0, .inl (nI 1)), (191, .iaload, 1, 0, 0, 0, .inl 0), (192, .ishl, 1, 0, 0, 0, .inl 0), (193, .iconst 1, 1, 0, 0, 0, .inl (nI 1)), (194, .isub, 1, 0, 0, 0, .inl 0), (195, .laload, 1, 0, 0, 0, .inl 0), (196, .lreturn, 1, 0, 0, 0, .inl 0)])
  | n => (n, [])
theorem ck_93 : ∀ pc, px_cks pn_i93 (bk_93 pc).1 pc (bk_93 pc).2 = true := by
  intro pc
  unfold bk_93
  split <;> first | decide +kernel | simp [px_cks]
/-- NoThreeModel.dear()I -/
def bk_94 : Nat → Nat × List px_E := fun pc => match pc with
  | 0 => (13, [(0, .aload_n 0, 1, 0, 0, 0, .inl 0), (1, .iconst 0, 1, 0, 0, 0, .inl (nI 0)), (2, .putfield 1, 3, 0, 0, 0, .inl 0), (5, .aload_n 0, 1, 0, 0, 0, .inl 0), (6, .iconst (-1), 1, 0, 0, 0, .inl (-1)), (7, .invokevirtual 243, 3, 43, 2, 0, .inl 0), (10, .istore_n 1, 1, 1, 0, 0, .inl 0), (11, .iconst 0, 1, 0, 0, 0, .inl (nI 0)), (12, .istore_n 2, 1, 2, 0, 0, .inl 0)])
  | 13 => (34, [(13, .iload_n 2, 1, 2, 0, 0, .inl 0), (14, .aload_n 0, 1, 0, 0, 0, .inl 0), (15, .getfield 13, 3, 0, 1, 2, .inl 0), (18, .iconst 1, 1, 0, 0, 0, .inl (nI 1)), (19, .iaload, 1, 0, 0, 0, .inl 0), (20, .if_icmp .ge 20, 3, 40, 0, 0, .inl 0), (23, .aload_n 0, 1, 0, 0, 0, .inl 0), (24, .iload_n 2, 1, 2, 0, 0, .inl 0), (25, .invokevirtual 243, 3, 43, 2, 0, .inl 0), (28, .iload_n 1, 1, 1, 0, 0, .inl 0), (29, .if_icmp .ge 5, 3, 34, 0, 0, .inl 0), (32, .iload_n 2, 1, 2, 0, 0, .inl 0), (33, .ireturn, 1, 0, 0, 0, .inl 0)])
  | 34 => (40, [(34, .iinc 2 1, 3, 2, 0, 0, .inl (nI 1)), (37, .goto (-24), 3, 13, 0, 0, .inl 0)])
  | 40 => (42, [(40, .iconst (-1), 1, 0, 0, 0, .inl (-1)), (41, .ireturn, 1, 0, 0, 0, .inl 0)])
  | n => (n, [])
theorem ck_94 : ∀ pc, px_cks pn_i94 (bk_94 pc).1 pc (bk_94 pc).2 = true := by
  intro pc
  unfold bk_94
  split <;> first | decide +kernel | simp [px_cks]
/-- NoThreeModel.tells(III)V -/
def bk_95 : Nat → Nat × List px_E := fun pc => match pc with
  | 0 => (18, [(0, .iload_n 1, 1, 1, 0, 0, .inl 0), (1, .aload_n 0, 1, 0, 0, 0, .inl 0), (2, .getfield 13, 3, 0, 1, 2, .inl 0), (5, .iconst 1, 1, 0, 0, 0, .inl (nI 1)), (6, .iaload, 1, 0, 0, 0, .inl 0), (7, .if_icmp .ne 11, 3, 18, 0, 0, .inl 0), (10, .aload_n 0, 1, 0, 0, 0, .inl 0), (11, .getfield 55, 3, 0, 25, 2, .inl 0), (14, .iload_n 3, 1, 3, 0, 0, .inl 0), (15, .iconst 1, 1, 0, 0, 0, .inl (nI 1)), (16, .bastore, 1, 0, 0, 0, .inl 0), (17, .return_, 1, 0, 0, 0, .inl 0)])
  | 18 => (37, [(18, .aload_n 0, 1, 0, 0, 0, .inl 0), (19, .iload_n 1, 1, 1, 0, 0, .inl 0), (20, .iconst 1, 1, 0, 0, 0, .inl (nI 1)), (21, .iadd, 1, 0, 0, 0, .inl 0), (22, .iload_n 2, 1, 2, 0, 0, .inl 0), (23, .iload_n 3, 1, 3, 0, 0, .inl 0), (24, .invokevirtual 342, 3, 95, 4, 0, .inl 0), (27, .iload_n 2, 1, 2, 0, 0, .inl 0), (28, .i2l, 1, 0, 0, 0, .inl 0), (29, .iload_n 1, 1, 1, 0, 0, .inl 0), (30, .invokestatic 151, 3, 14, 2, 0, .inl 0), (33, .ifCond .ne 4, 3, 37, 0, 0, .inl 0), (36, .return_, 1, 0, 0, 0, .inl 0)])
  | 37 => (40, [(37, .iconst 0, 1, 0, 0, 0, .inl (nI 0)), (38, .istore 4, 2, 4, 0, 0, .inl 0)])
  | 40 => (65, [(40, .iload 4, 2, 4, 0, 0, .inl 0), (42, .aload_n 0, 1, 0, 0, 0, .inl 0), (43, .getfield 13, 3, 0, 1, 2, .inl 0), (46, .iconst 1, 1, 0, 0, 0, .inl (nI 1)), (47, .iaload, 1, 0, 0, 0, .inl 0), (48, .if_icmp .ge 47, 3, 95, 0, 0, .inl 0), (51, .aload_n 0, 1, 0, 0, 0, .inl 0), (52, .iload_n 1, 1, 1, 0, 0, .inl 0), (53, .invokevirtual 205, 3, 31, 2, 0, .inl 0), (56, .i2l, 1, 0, 0, 0, .inl 0), (57, .iload 4, 2, 4, 0, 0, .inl 0), (59, .invokestatic 151, 3, 14, 2, 0, .inl 0), (62, .ifCond .eq 27, 3, 89, 0, 0, .inl 0)])
  | 65 => (89, [(65, .iload_n 3, 1, 3, 0, 0, .inl 0), (66, .i2l, 1, 0, 0, 0, .inl 0), (67, .iload 4, 2, 4, 0, 0, .inl 0), (69, .invokestatic 151, 3, 14, 2, 0, .inl 0), (72, .ifCond .ne 17, 3, 89, 0, 0, .inl 0), (75, .aload_n 0, 1, 0, 0, 0, .inl 0), (76, .iload_n 1, 1, 1, 0, 0, .inl 0), (77, .iconst 1, 1, 0, 0, 0, .inl (nI 1)), (78, .iadd, 1, 0, 0, 0, .inl 0), (79, .iload_n 2, 1, 2, 0, 0, .inl 0), (80, .iload_n 3, 1, 3, 0, 0, .inl 0), (81, .iconst 1, 1, 0, 0, 0, .inl (nI 1)), (82, .iload 4, 2, 4, 0, 0, .inl 0), (84, .ishl, 1, 0, 0, 0, .inl 0), (85, .ior, 1, 0, 0, 0, .inl 0), (86, .invokevirtual 342, 3, 95, 4, 0, .inl 0)])
  | 89 => (95, [(89, .iinc 4 1, 3, 4, 0, 0, .inl (nI 1)), (92, .goto (-52), 3, 40, 0, 0, .inl 0)])
  | 95 => (96, [(95, .return_, 1, 0, 0, 0, .inl 0)])
  | n => (n, [])
theorem ck_95 : ∀ pc, px_cks pn_i95 (bk_95 pc).1 pc (bk_95 pc).2 = true := by
  intro pc
  unfold bk_95
  split <;> first | decide +kernel | simp [px_cks]
/-- NoThreeModel.tellingOf(I)I -/
def bk_96 : Nat → Nat × List px_E := fun pc => match pc with
  | 0 => (8, [(0, .aload_n 0, 1, 0, 0, 0, .inl 0), (1, .iload_n 1, 1, 1, 0, 0, .inl 0), (2, .invokevirtual 224, 3, 36, 2, 0, .inl 0), (5, .istore_n 2, 1, 2, 0, 0, .inl 0), (6, .iconst 0, 1, 0, 0, 0, .inl (nI 0)), (7, .istore_n 3, 1, 3, 0, 0, .inl 0)])
  | 8 => (31, [(8, .iload_n 3, 1, 3, 0, 0, .inl 0), (9, .sipush 2048, 3, 0, 0, 0, .inl (nI 2048)), (12, .if_icmp .ge 27, 3, 39, 0, 0, .inl 0), (15, .aload_n 0, 1, 0, 0, 0, .inl 0), (16, .getfield 55, 3, 0, 25, 2, .inl 0), (19, .iload_n 3, 1, 3, 0, 0, .inl 0), (20, .iload_n 3, 1, 3, 0, 0, .inl 0), (21, .iconst 1, 1, 0, 0, 0, .inl (nI 1)), (22, .iload_n 1, 1, 1, 0, 0, .inl 0), (23, .ishl, 1, 0, 0, 0, .inl 0), (24, .if_icmp .ne 7, 3, 31, 0, 0, .inl 0), (27, .iconst 1, 1, 0, 0, 0, .inl (nI 1)), (28, .goto 4, 3, 32, 0, 0, .inl 0)])
  | 31 => (32, [(31, .iconst 0, 1, 0, 0, 0, .inl (nI 0))])
  | 32 => (39, [(32, .bastore, 1, 0, 0, 0, .inl 0), (33, .iinc 3 1, 3, 3, 0, 0, .inl (nI 1)), (36, .goto (-28), 3, 8, 0, 0, .inl 0)])
  | 39 => (41, [(39, .iconst 0, 1, 0, 0, 0, .inl (nI 0)), (40, .istore_n 3, 1, 3, 0, 0, .inl 0)])
  | 41 => (52, [(41, .aload_n 0, 1, 0, 0, 0, .inl 0), (42, .getfield 55, 3, 0, 25, 2, .inl 0), (45, .iload_n 2, 1, 2, 0, 0, .inl 0), (46, .baload, 1, 0, 0, 0, .inl 0), (47, .ifCond .eq 5, 3, 52, 0, 0, .inl 0), (50, .iload_n 3, 1, 3, 0, 0, .inl 0), (51, .ireturn, 1, 0, 0, 0, .inl 0)])
  | 52 => (55, [(52, .iconst 0, 1, 0, 0, 0, .inl (nI 0)), (53, .istore 4, 2, 4, 0, 0, .inl 0)])
  | 55 => (91, [(55, .iload 4, 2, 4, 0, 0, .inl 0), (57, .sipush 2048, 3, 0, 0, 0, .inl (nI 2048)), (60, .if_icmp .ge 31, 3, 91, 0, 0, .inl 0), (63, .aload_n 0, 1, 0, 0, 0, .inl 0), (64, .getfield 58, 3, 0, 26, 2, .inl 0), (67, .iload 4, 2, 4, 0, 0, .inl 0), (69, .aload_n 0, 1, 0, 0, 0, .inl 0), (70, .getfield 55, 3, 0, 25, 2, .inl 0), (73, .iload 4, 2, 4, 0, 0, .inl 0), (75, .baload, 1, 0, 0, 0, .inl 0), (76, .bastore, 1, 0, 0, 0, .inl 0), (77, .aload_n 0, 1, 0, 0, 0, .inl 0), (78, .getfield 55, 3, 0, 25, 2, .inl 0), (81, .iload 4, 2, 4, 0, 0, .inl 0), (83, .iconst 0, 1, 0, 0, 0, .inl (nI 0)), (84, .bastore, 1, 0, 0, 0, .inl 0), (85, .iinc 4 1, 3, 4, 0, 0, .inl (nI 1)), (88, .goto (-33), 3, 55, 0, 0, .inl 0)])
  | 91 => (94, [(91, .iconst 0, 1, 0, 0, 0, .inl (nI 0)), (92, .istore 4, 2, 4, 0, 0, .inl 0)])
  | 94 => (135, [(94, .iload 4, 2, 4, 0, 0, .inl 0), (96, .iconst 1, 1, 0, 0, 0, .inl (nI 1)), (97, .aload_n 0, 1, 0, 0, 0, .inl 0), (98, .getfield 13, 3, 0, 1, 2, .inl 0), (101, .iconst 1, 1, 0, 0, 0, .inl (nI 1)), (102, .iaload, 1, 0, 0, 0, .inl 0), (103, .ishl, 1, 0, 0, 0, .inl 0), (104, .if_icmp .ge 37, 3, 141, 0, 0, .inl 0), (107, .aload_n 0, 1, 0, 0, 0, .inl 0), (108, .getfield 58, 3, 0, 26, 2, .inl 0), (111, .iload 4, 2, 4, 0, 0, .inl 0), (113, .baload, 1, 0, 0, 0, .inl 0), (114, .ifCond .eq 21, 3, 135, 0, 0, .inl 0), (117, .aload_n 0, 1, 0, 0, 0, .inl 0), (118, .iload 4, 2, 4, 0, 0, .inl 0), (120, .invokevirtual 346, 3, 97, 2, 0, .inl 0), (123, .ifCond .ne 12, 3, 135, 0, 0, .inl 0), (126, .aload_n 0, 1, 0, 0, 0, .inl 0), (127, .iconst 0, 1, 0, 0, 0, .inl (nI 0)), (128, .iload 4, 2, 4, 0, 0, .inl 0), (130, .iload 4, 2, 4, 0, 0, .inl 0), (132, .invokevirtual 342, 3, 95, 4, 0, .inl 0)])
  | 135 => (141, [(135, .iinc 4 1, 3, 4, 0, 0, .inl (nI 1)), (138, .goto (-44), 3, 94, 0, 0, .inl 0)])
  | 141 => (147, [(141, .iinc 3 1, 3, 3, 0, 0, .inl (nI 1)), (144, .goto (-103), 3, 41, 0, 0, .inl 0)])
  | n => (n, [])
theorem ck_96 : ∀ pc, px_cks pn_i96 (bk_96 pc).1 pc (bk_96 pc).2 = true := by
  intro pc
  unfold bk_96
  split <;> first | decide +kernel | simp [px_cks]
/-- NoThreeModel.isLess(I)Z -/
def bk_97 : Nat → Nat × List px_E := fun pc => match pc with
  | 0 => (2, [(0, .iconst 0, 1, 0, 0, 0, .inl (nI 0)), (1, .istore_n 2, 1, 2, 0, 0, .inl 0)])
  | 2 => (36, [(2, .iload_n 2, 1, 2, 0, 0, .inl 0), (3, .aload_n 0, 1, 0, 0, 0, .inl 0), (4, .getfield 13, 3, 0, 1, 2, .inl 0), (7, .iconst 1, 1, 0, 0, 0, .inl (nI 1)), (8, .iaload, 1, 0, 0, 0, .inl 0), (9, .if_icmp .ge 33, 3, 42, 0, 0, .inl 0), (12, .iload_n 1, 1, 1, 0, 0, .inl 0), (13, .i2l, 1, 0, 0, 0, .inl 0), (14, .iload_n 2, 1, 2, 0, 0, .inl 0), (15, .invokestatic 151, 3, 14, 2, 0, .inl 0), (18, .ifCond .ne 18, 3, 36, 0, 0, .inl 0), (21, .aload_n 0, 1, 0, 0, 0, .inl 0), (22, .getfield 58, 3, 0, 26, 2, .inl 0), (25, .iload_n 1, 1, 1, 0, 0, .inl 0), (26, .iconst 1, 1, 0, 0, 0, .inl (nI 1)), (27, .iload_n 2, 1, 2, 0, 0, .inl 0), (28, .ishl, 1, 0, 0, 0, .inl 0), (29, .ior, 1, 0, 0, 0, .inl 0), (30, .baload, 1, 0, 0, 0, .inl 0), (31, .ifCond .eq 5, 3, 36, 0, 0, .inl 0), (34, .iconst 1, 1, 0, 0, 0, .inl (nI 1)), (35, .ireturn, 1, 0, 0, 0, .inl 0)])
  | 36 => (42, [(36, .iinc 2 1, 3, 2, 0, 0, .inl (nI 1)), (39, .goto (-37), 3, 2, 0, 0, .inl 0)])
  | 42 => (44, [(42, .iconst 0, 1, 0, 0, 0, .inl (nI 0)), (43, .ireturn, 1, 0, 0, 0, .inl 0)])
  | n => (n, [])
theorem ck_97 : ∀ pc, px_cks pn_i97 (bk_97 pc).1 pc (bk_97 pc).2 = true := by
  intro pc
  unfold bk_97
  split <;> first | decide +kernel | simp [px_cks]
/-- NoThreeModel.telling(I)I -/
def bk_98 : Nat → Nat × List px_E := fun pc => match pc with
  | 0 => (22, [(0, .aload_n 0, 1, 0, 0, 0, .inl 0), (1, .iconst 0, 1, 0, 0, 0, .inl (nI 0)), (2, .putfield 1, 3, 0, 0, 0, .inl 0), (5, .aload_n 0, 1, 0, 0, 0, .inl 0), (6, .iload_n 1, 1, 1, 0, 0, .inl 0), (7, .i2l, 1, 0, 0, 0, .inl 0), (8, .invokevirtual 214, 3, 30, 2, 0, .inl 0), (11, .ifCond .eq 11, 3, 22, 0, 0, .inl 0), (14, .aload_n 0, 1, 0, 0, 0, .inl 0), (15, .iload_n 1, 1, 1, 0, 0, .inl 0), (16, .invokevirtual 349, 3, 96, 2, 0, .inl 0), (19, .goto 5, 3, 24, 0, 0, .inl 0)])
  | 22 => (24, [(22, .bipush (-2), 2, 0, 0, 0, .inl (-2))])
  | 24 => (25, [(24, .ireturn, 1, 0, 0, 0, .inl 0)])
  | n => (n, [])
theorem ck_98 : ∀ pc, px_cks pn_i98 (bk_98 pc).1 pc (bk_98 pc).2 = true := by
  intro pc
  unfold bk_98
  split <;> first | decide +kernel | simp [px_cks]
/-- NoThreeModel.teller()I -/
def bk_99 : Nat → Nat × List px_E := fun pc => match pc with
  | 0 => (14, [(0, .aload_n 0, 1, 0, 0, 0, .inl 0), (1, .iconst 0, 1, 0, 0, 0, .inl (nI 0)), (2, .putfield 1, 3, 0, 0, 0, .inl 0), (5, .iconst (-1), 1, 0, 0, 0, .inl (-1)), (6, .istore_n 1, 1, 1, 0, 0, .inl 0), (7, .iconst 0, 1, 0, 0, 0, .inl (nI 0)), (8, .istore_n 2, 1, 2, 0, 0, .inl 0), (9, .iconst 0, 1, 0, 0, 0, .inl (nI 0)), (10, .istore_n 3, 1, 3, 0, 0, .inl 0), (11, .iconst 0, 1, 0, 0, 0, .inl (nI 0)), (12, .istore 4, 2, 4, 0, 0, .inl 0)])
  | 14 => (45, [(14, .iload 4, 2, 4, 0, 0, .inl 0), (16, .aload_n 0, 1, 0, 0, 0, .inl 0), (17, .getfield 13, 3, 0, 1, 2, .inl 0), (20, .iconst 1, 1, 0, 0, 0, .inl (nI 1)), (21, .iaload, 1, 0, 0, 0, .inl 0), (22, .if_icmp .ge 61, 3, 83, 0, 0, .inl 0), (25, .aload_n 0, 1, 0, 0, 0, .inl 0), (26, .iload 4, 2, 4, 0, 0, .inl 0), (28, .invokevirtual 224, 3, 36, 2, 0, .inl 0), (31, .invokestatic 208, 3, 32, 1, 0, .inl 0), (34, .istore 5, 2, 5, 0, 0, .inl 0), (36, .iload 5, 2, 5, 0, 0, .inl 0), (38, .iload_n 2, 1, 2, 0, 0, .inl 0), (39, .if_icmp .ge 6, 3, 45, 0, 0, .inl 0), (42, .goto 35, 3, 77, 0, 0, .inl 0)])
  | 45 => (68, [(45, .aload_n 0, 1, 0, 0, 0, .inl 0), (46, .iload 4, 2, 4, 0, 0, .inl 0), (48, .invokevirtual 349, 3, 96, 2, 0, .inl 0), (51, .istore 6, 2, 6, 0, 0, .inl 0), (53, .iload 5, 2, 5, 0, 0, .inl 0), (55, .iload_n 2, 1, 2, 0, 0, .inl 0), (56, .if_icmp .ne 12, 3, 68, 0, 0, .inl 0), (59, .iload 6, 2, 6, 0, 0, .inl 0), (61, .iload_n 3, 1, 3, 0, 0, .inl 0), (62, .if_icmp .lt 6, 3, 68, 0, 0, .inl 0), (65, .goto 12, 3, 77, 0, 0, .inl 0)])
  | 68 => (77, [(68, .iload 4, 2, 4, 0, 0, .inl 0), (70, .istore_n 1, 1, 1, 0, 0, .inl 0), (71, .iload 5, 2, 5, 0, 0, .inl 0), (73, .istore_n 2, 1, 2, 0, 0, .inl 0), (74, .iload 6, 2, 6, 0, 0, .inl 0), (76, .istore_n 3, 1, 3, 0, 0, .inl 0)])
  | 77 => (83, [(77, .iinc 4 1, 3, 4, 0, 0, .inl (nI 1)), (80, .goto (-66), 3, 14, 0, 0, .inl 0)])
  | 83 => (85, [(83, .iload_n 1, 1, 1, 0, 0, .inl 0), (84, .ireturn, 1, 0, 0, 0, .inl 0)])
  | n => (n, [])
theorem ck_99 : ∀ pc, px_cks pn_i99 (bk_99 pc).1 pc (bk_99 pc).2 = true := by
  intro pc
  unfold bk_99
  split <;> first | decide +kernel | simp [px_cks]
/-- NoThreeModel.safe(II)I -/
def bk_100 : Nat → Nat × List px_E := fun pc => match pc with
  | 0 => (17, [(0, .aload_n 0, 1, 0, 0, 0, .inl 0), (1, .iconst 0, 1, 0, 0, 0, .inl (nI 0)), (2, .putfield 1, 3, 0, 0, 0, .inl 0), (5, .aload_n 0, 1, 0, 0, 0, .inl 0), (6, .iload_n 1, 1, 1, 0, 0, .inl 0), (7, .i2l, 1, 0, 0, 0, .inl 0), (8, .invokevirtual 214, 3, 30, 2, 0, .inl 0), (11, .ifCond .ne 6, 3, 17, 0, 0, .inl 0), (14, .bipush (-2), 2, 0, 0, 0, .inl (-2)), (16, .ireturn, 1, 0, 0, 0, .inl 0)])
  | 17 => (29, [(17, .iload_n 2, 1, 2, 0, 0, .inl 0), (18, .i2l, 1, 0, 0, 0, .inl 0), (19, .lconst 0, 1, 0, 0, 0, .inr (.inl (lN 0))), (20, .ldc2_w 352, 3, 0, 0, 0, .inr (.inl (lN 10))), (23, .invokestatic 141, 3, 2, 3, 0, .inl 0), (26, .ifCond .ne 6, 3, 32, 0, 0, .inl 0)])
  | 29 => (32, [(29, .bipush (-3), 2, 0, 0, 0, .inl (-3)), (31, .ireturn, 1, 0, 0, 0, .inl 0)])
  | 32 => (43, [(32, .aload_n 0, 1, 0, 0, 0, .inl 0), (33, .iload_n 1, 1, 1, 0, 0, .inl 0), (34, .invokevirtual 211, 3, 35, 2, 0, .inl 0), (37, .pop, 1, 0, 0, 0, .inl 0), (38, .iconst 0, 1, 0, 0, 0, .inl (nI 0)), (39, .istore_n 3, 1, 3, 0, 0, .inl 0), (40, .iconst 0, 1, 0, 0, 0, .inl (nI 0)), (41, .istore 4, 2, 4, 0, 0, .inl 0)])
  | 43 => (73, [(43, .iload 4, 2, 4, 0, 0, .inl 0), (45, .aload_n 0, 1, 0, 0, 0, .inl 0), (46, .getfield 13, 3, 0, 1, 2, .inl 0), (49, .iconst 1, 1, 0, 0, 0, .inl (nI 1)), (50, .iaload, 1, 0, 0, 0, .inl 0), (51, .if_icmp .ge 31, 3, 82, 0, 0, .inl 0), (54, .iload_n 3, 1, 3, 0, 0, .inl 0), (55, .aload_n 0, 1, 0, 0, 0, .inl 0), (56, .getfield 30, 3, 0, 15, 2, .inl 0), (59, .iload 4, 2, 4, 0, 0, .inl 0), (61, .iaload, 1, 0, 0, 0, .inl 0), (62, .iload_n 2, 1, 2, 0, 0, .inl 0), (63, .if_icmp .le 10, 3, 73, 0, 0, .inl 0), (66, .iconst 1, 1, 0, 0, 0, .inl (nI 1)), (67, .iload 4, 2, 4, 0, 0, .inl 0), (69, .ishl, 1, 0, 0, 0, .inl 0), (70, .goto 4, 3, 74, 0, 0, .inl 0)])
  | 73 => (74, [(73, .iconst 0, 1, 0, 0, 0, .inl (nI 0))])
  | 74 => (76, [(74, .ior, 1, 0, 0, 0, .inl 0), (75, .istore_n 3, 1, 3, 0, 0, .inl 0)])
  | 76 => (82, [(76, .iinc 4 1, 3, 4, 0, 0, .inl (nI 1)), (79, .goto (-36), 3, 43, 0, 0, .inl 0)])
  | 82 => (84, [(82, .iload_n 3, 1, 3, 0, 0, .inl 0), (83, .ireturn, 1, 0, 0, 0, .inl 0)])
  | n => (n, [])
theorem ck_100 : ∀ pc, px_cks pn_i100 (bk_100 pc).1 pc (bk_100 pc).2 = true := by
  intro pc
  unfold bk_100
  split <;> first | decide +kernel | simp [px_cks]
/-- NoThreeModel.wide(I)I -/
def bk_101 : Nat → Nat × List px_E := fun pc => match pc with
  | 0 => (18, [(0, .aload_n 0, 1, 0, 0, 0, .inl 0), (1, .iconst 0, 1, 0, 0, 0, .inl (nI 0)), (2, .putfield 1, 3, 0, 0, 0, .inl 0), (5, .iload_n 1, 1, 1, 0, 0, .inl 0), (6, .i2l, 1, 0, 0, 0, .inl 0), (7, .lconst 0, 1, 0, 0, 0, .inr (.inl (lN 0))), (8, .lconst 1, 1, 0, 0, 0, .inr (.inl (lN 1))), (9, .invokestatic 141, 3, 2, 3, 0, .inl 0), (12, .ifCond .ne 6, 3, 18, 0, 0, .inl 0), (15, .bipush (-2), 2, 0, 0, 0, .inl (-2)), (17, .ireturn, 1, 0, 0, 0, .inl 0)])
  | 18 => (25, [(18, .iconst 0, 1, 0, 0, 0, .inl (nI 0)), (19, .istore_n 2, 1, 2, 0, 0, .inl 0), (20, .iconst (-1), 1, 0, 0, 0, .inl (-1)), (21, .istore_n 3, 1, 3, 0, 0, .inl 0), (22, .iconst 0, 1, 0, 0, 0, .inl (nI 0)), (23, .istore 4, 2, 4, 0, 0, .inl 0)])
  | 25 => (49, [(25, .iload 4, 2, 4, 0, 0, .inl 0), (27, .aload_n 0, 1, 0, 0, 0, .inl 0), (28, .getfield 13, 3, 0, 1, 2, .inl 0), (31, .iconst 1, 1, 0, 0, 0, .inl (nI 1)), (32, .iaload, 1, 0, 0, 0, .inl 0), (33, .if_icmp .ge 82, 3, 115, 0, 0, .inl 0), (36, .aload_n 0, 1, 0, 0, 0, .inl 0), (37, .iload 4, 2, 4, 0, 0, .inl 0), (39, .invokevirtual 211, 3, 35, 2, 0, .inl 0), (42, .pop, 1, 0, 0, 0, .inl 0), (43, .iload 4, 2, 4, 0, 0, .inl 0), (45, .iconst 1, 1, 0, 0, 0, .inl (nI 1)), (46, .iadd, 1, 0, 0, 0, .inl 0), (47, .istore 5, 2, 5, 0, 0, .inl 0)])
  | 49 => (86, [(49, .iload 5, 2, 5, 0, 0, .inl 0), (51, .aload_n 0, 1, 0, 0, 0, .inl 0), (52, .getfield 13, 3, 0, 1, 2, .inl 0), (55, .iconst 1, 1, 0, 0, 0, .inl (nI 1)), (56, .iaload, 1, 0, 0, 0, .inl 0), (57, .if_icmp .ge 52, 3, 109, 0, 0, .inl 0), (60, .aload_n 0, 1, 0, 0, 0, .inl 0), (61, .getfield 30, 3, 0, 15, 2, .inl 0), (64, .iload 5, 2, 5, 0, 0, .inl 0), (66, .iaload, 1, 0, 0, 0, .inl 0), (67, .bipush 99, 2, 0, 0, 0, .inl (nI 99)), (69, .if_icmp .eq 34, 3, 103, 0, 0, .inl 0), (72, .aload_n 0, 1, 0, 0, 0, .inl 0), (73, .getfield 30, 3, 0, 15, 2, .inl 0), (76, .iload 5, 2, 5, 0, 0, .inl 0), (78, .iaload, 1, 0, 0, 0, .inl 0), (79, .iload_n 2, 1, 2, 0, 0, .inl 0), (80, .if_icmp .gt 6, 3, 86, 0, 0, .inl 0), (83, .goto 20, 3, 103, 0, 0, .inl 0)])
  | 86 => (103, [(86, .aload_n 0, 1, 0, 0, 0, .inl 0), (87, .getfield 30, 3, 0, 15, 2, .inl 0), (90, .iload 5, 2, 5, 0, 0, .inl 0), (92, .iaload, 1, 0, 0, 0, .inl 0), (93, .istore_n 2, 1, 2, 0, 0, .inl 0), (94, .bipush 100, 2, 0, 0, 0, .inl (nI 100)), (96, .iload 4, 2, 4, 0, 0, .inl 0), (98, .imul, 1, 0, 0, 0, .inl 0), (99, .iload 5, 2, 5, 0, 0, .inl 0), (101, .iadd, 1, 0, 0, 0, .inl 0), (102, .istore_n 3, 1, 3, 0, 0, .inl 0)])
  | 103 => (109, [(103, .iinc 5 1, 3, 5, 0, 0, .inl (nI 1)), (106, .goto (-57), 3, 49, 0, 0, .inl 0)])
  | 109 => (115, [(109, .iinc 4 1, 3, 4, 0, 0, .inl (nI 1)), (112, .goto (-87), 3, 25, 0, 0, .inl 0)])
  | 115 => (129, [(115, .iload_n 1, 1, 1, 0, 0, .inl 0), (116, .iconst 1, 1, 0, 0, 0, .inl (nI 1)), (117, .if_icmp .eq 12, 3, 129, 0, 0, .inl 0), (120, .aload_n 0, 1, 0, 0, 0, .inl 0), (121, .getfield 13, 3, 0, 1, 2, .inl 0), (124, .iconst 1, 1, 0, 0, 0, .inl (nI 1)), (125, .iaload, 1, 0, 0, 0, .inl 0), (126, .ifCond .ne 7, 3, 133, 0, 0, .inl 0)])
  | 129 => (133, [(129, .iload_n 3, 1, 3, 0, 0, .inl 0), (130, .goto 4, 3, 134, 0, 0, .inl 0)])
  | 133 => (134, [(133, .iload_n 2, 1, 2, 0, 0, .inl 0)])
  | 134 => (135, [(134, .ireturn, 1, 0, 0, 0, .inl 0)])
  | n => (n, [])
theorem ck_101 : ∀ pc, px_cks pn_i101 (bk_101 pc).1 pc (bk_101 pc).2 = true := by
  intro pc
  unfold bk_101
  split <;> first | decide +kernel | simp [px_cks]
/-- NoThreeModel.bitAt(II)I -/
def bk_102 : Nat → Nat × List px_E := fun pc => match pc with
  | 0 => (17, [(0, .iload_n 0, 1, 0, 0, 0, .inl 0), (1, .iload_n 1, 1, 1, 0, 0, .inl 0), (2, .if_icmp .ge 15, 3, 17, 0, 0, .inl 0), (5, .iload_n 1, 1, 1, 0, 0, .inl 0), (6, .iload_n 1, 1, 1, 0, 0, .inl 0), (7, .iconst 1, 1, 0, 0, 0, .inl (nI 1)), (8, .isub, 1, 0, 0, 0, .inl 0), (9, .imul, 1, 0, 0, 0, .inl 0), (10, .iconst 2, 1, 0, 0, 0, .inl (nI 2)), (11, .idiv, 1, 0, 0, 0, .inl 0), (12, .iload_n 0, 1, 0, 0, 0, .inl 0), (13, .iadd, 1, 0, 0, 0, .inl 0), (14, .goto 12, 3, 26, 0, 0, .inl 0)])
  | 17 => (26, [(17, .iload_n 0, 1, 0, 0, 0, .inl 0), (18, .iload_n 0, 1, 0, 0, 0, .inl 0), (19, .iconst 1, 1, 0, 0, 0, .inl (nI 1)), (20, .isub, 1, 0, 0, 0, .inl 0), (21, .imul, 1, 0, 0, 0, .inl 0), (22, .iconst 2, 1, 0, 0, 0, .inl (nI 2)), (23, .idiv, 1, 0, 0, 0, .inl 0), (24, .iload_n 1, 1, 1, 0, 0, .inl 0), (25, .iadd, 1, 0, 0, 0, .inl 0)])
  | 26 => (27, [(26, .ireturn, 1, 0, 0, 0, .inl 0)])
  | n => (n, [])
theorem ck_102 : ∀ pc, px_cks pn_i102 (bk_102 pc).1 pc (bk_102 pc).2 = true := by
  intro pc
  unfold bk_102
  split <;> first | decide +kernel | simp [px_cks]
/-- NoThreeModel.marks(III)V -/
def bk_103 : Nat → Nat × List px_E := fun pc => match pc with
  | 0 => (27, [(0, .iload_n 1, 1, 1, 0, 0, .inl 0), (1, .aload_n 0, 1, 0, 0, 0, .inl 0), (2, .getfield 13, 3, 0, 1, 2, .inl 0), (5, .iconst 1, 1, 0, 0, 0, .inl (nI 1)), (6, .iaload, 1, 0, 0, 0, .inl 0), (7, .if_icmp .ne 32, 3, 39, 0, 0, .inl 0), (10, .aload_n 0, 1, 0, 0, 0, .inl 0), (11, .aload_n 0, 1, 0, 0, 0, .inl 0), (12, .getfield 354, 3, 0, 29, 0, .inl 0), (15, .iconst (-1), 1, 0, 0, 0, .inl (-1)), (16, .if_icmp .eq 11, 3, 27, 0, 0, .inl 0), (19, .iload_n 3, 1, 3, 0, 0, .inl 0), (20, .aload_n 0, 1, 0, 0, 0, .inl 0), (21, .getfield 354, 3, 0, 29, 0, .inl 0), (24, .if_icmp .ge 7, 3, 31, 0, 0, .inl 0)])
  | 27 => (31, [(27, .iload_n 3, 1, 3, 0, 0, .inl 0), (28, .goto 7, 3, 35, 0, 0, .inl 0)])
  | 31 => (35, [(31, .aload_n 0, 1, 0, 0, 0, .inl 0), (32, .getfield 354, 3, 0, 29, 0, .inl 0)])
  | 35 => (39, [(35, .putfield 354, 3, 0, 29, 0, .inl 0), (38, .return_, 1, 0, 0, 0, .inl 0)])
  | 39 => (42, [(39, .iconst 0, 1, 0, 0, 0, .inl (nI 0)), (40, .istore 4, 2, 4, 0, 0, .inl 0)])
  | 42 => (66, [(42, .iload 4, 2, 4, 0, 0, .inl 0), (44, .aload_n 0, 1, 0, 0, 0, .inl 0), (45, .getfield 13, 3, 0, 1, 2, .inl 0), (48, .iconst 1, 1, 0, 0, 0, .inl (nI 1)), (49, .iaload, 1, 0, 0, 0, .inl 0), (50, .if_icmp .ge 100, 3, 150, 0, 0, .inl 0), (53, .iload_n 2, 1, 2, 0, 0, .inl 0), (54, .i2l, 1, 0, 0, 0, .inl 0), (55, .iload 4, 2, 4, 0, 0, .inl 0), (57, .invokestatic 151, 3, 14, 2, 0, .inl 0), (60, .ifCond .eq 6, 3, 66, 0, 0, .inl 0), (63, .goto 81, 3, 144, 0, 0, .inl 0)])
  | 66 => (80, [(66, .aload_n 0, 1, 0, 0, 0, .inl 0), (67, .getfield 61, 3, 0, 27, 2, .inl 0), (70, .iload_n 1, 1, 1, 0, 0, .inl 0), (71, .iload 4, 2, 4, 0, 0, .inl 0), (73, .iastore, 1, 0, 0, 0, .inl 0), (74, .iload_n 3, 1, 3, 0, 0, .inl 0), (75, .istore 5, 2, 5, 0, 0, .inl 0), (77, .iconst 0, 1, 0, 0, 0, .inl (nI 0)), (78, .istore 6, 2, 6, 0, 0, .inl 0)])
  | 80 => (119, [(80, .iload 6, 2, 6, 0, 0, .inl 0), (82, .iload_n 1, 1, 1, 0, 0, .inl 0), (83, .if_icmp .ge 46, 3, 129, 0, 0, .inl 0), (86, .iload 5, 2, 5, 0, 0, .inl 0), (88, .aload_n 0, 1, 0, 0, 0, .inl 0), (89, .iload_n 1, 1, 1, 0, 0, .inl 0), (90, .invokevirtual 205, 3, 31, 2, 0, .inl 0), (93, .i2l, 1, 0, 0, 0, .inl 0), (94, .iload 6, 2, 6, 0, 0, .inl 0), (96, .invokestatic 151, 3, 14, 2, 0, .inl 0), (99, .ifCond .eq 20, 3, 119, 0, 0, .inl 0), (102, .iconst 1, 1, 0, 0, 0, .inl (nI 1)), (103, .iload 4, 2, 4, 0, 0, .inl 0), (105, .aload_n 0, 1, 0, 0, 0, .inl 0), (106, .getfield 61, 3, 0, 27, 2, .inl 0), (109, .iload 6, 2, 6, 0, 0, .inl 0), (111, .iaload, 1, 0, 0, 0, .inl 0), (112, .invokestatic 357, 3, 102, 2, 0, .inl 0), (115, .ishl, 1, 0, 0, 0, .inl 0), (116, .goto 4, 3, 120, 0, 0, .inl 0)])
  | 119 => (120, [(119, .iconst 0, 1, 0, 0, 0, .inl (nI 0))])
  | 120 => (123, [(120, .ior, 1, 0, 0, 0, .inl 0), (121, .istore 5, 2, 5, 0, 0, .inl 0)])
  | 123 => (129, [(123, .iinc 6 1, 3, 6, 0, 0, .inl (nI 1)), (126, .goto (-46), 3, 80, 0, 0, .inl 0)])
  | 129 => (144, [(129, .aload_n 0, 1, 0, 0, 0, .inl 0), (130, .iload_n 1, 1, 1, 0, 0, .inl 0), (131, .iconst 1, 1, 0, 0, 0, .inl (nI 1)), (132, .iadd, 1, 0, 0, 0, .inl 0), (133, .iload_n 2, 1, 2, 0, 0, .inl 0), (134, .iconst 1, 1, 0, 0, 0, .inl (nI 1)), (135, .iload 4, 2, 4, 0, 0, .inl 0), (137, .ishl, 1, 0, 0, 0, .inl 0), (138, .ior, 1, 0, 0, 0, .inl 0), (139, .iload 5, 2, 5, 0, 0, .inl 0), (141, .invokevirtual 360, 3, 103, 4, 0, .inl 0)])
  | 144 => (150, [(144, .iinc 4 1, 3, 4, 0, 0, .inl (nI 1)), (147, .goto (-105), 3, 42, 0, 0, .inl 0)])
  | 150 => (151, [(150, .return_, 1, 0, 0, 0, .inl 0)])
  | n => (n, [])
theorem ck_103 : ∀ pc, px_cks pn_i103 (bk_103 pc).1 pc (bk_103 pc).2 = true := by
  intro pc
  unfold bk_103
  split <;> first | decide +kernel | simp [px_cks]
/-- NoThreeModel.markOf()I -/
def bk_104 : Nat → Nat × List px_E := fun pc => match pc with
  | 0 => (17, [(0, .aload_n 0, 1, 0, 0, 0, .inl 0), (1, .iconst (-1), 1, 0, 0, 0, .inl (-1)), (2, .putfield 354, 3, 0, 29, 0, .inl 0), (5, .aload_n 0, 1, 0, 0, 0, .inl 0), (6, .iconst 0, 1, 0, 0, 0, .inl (nI 0)), (7, .iconst 0, 1, 0, 0, 0, .inl (nI 0)), (8, .iconst 0, 1, 0, 0, 0, .inl (nI 0)), (9, .invokevirtual 360, 3, 103, 4, 0, .inl 0), (12, .aload_n 0, 1, 0, 0, 0, .inl 0), (13, .getfield 354, 3, 0, 29, 0, .inl 0), (16, .ireturn, 1, 0, 0, 0, .inl 0)])
  | n => (n, [])
theorem ck_104 : ∀ pc, px_cks pn_i104 (bk_104 pc).1 pc (bk_104 pc).2 = true := by
  intro pc
  unfold bk_104
  split <;> first | decide +kernel | simp [px_cks]
