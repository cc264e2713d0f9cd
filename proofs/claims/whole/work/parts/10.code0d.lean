/-- NoThreeModel.mark()I -/
def bk_105 : Nat → Nat × List px_E := fun pc => match pc with
  | 0 => (21, [(0, .aload_n 0, 1, 0, 0, 0, .inl 0), (1, .iconst 0, 1, 0, 0, 0, .inl (nI 0)), (2, .putfield 1, 3, 0, 0, 0, .inl 0), (5, .aload_n 0, 1, 0, 0, 0, .inl 0), (6, .getfield 13, 3, 0, 1, 2, .inl 0), (9, .iconst 1, 1, 0, 0, 0, .inl (nI 1)), (10, .iaload, 1, 0, 0, 0, .inl 0), (11, .bipush 6, 2, 0, 0, 0, .inl (nI 6)), (13, .if_icmp .le 8, 3, 21, 0, 0, .inl 0), (16, .bipush (-4), 2, 0, 0, 0, .inl (-4)), (18, .goto 7, 3, 25, 0, 0, .inl 0)])
  | 21 => (25, [(21, .aload_n 0, 1, 0, 0, 0, .inl 0), (22, .invokevirtual 363, 3, 104, 1, 0, .inl 0)])
  | 25 => (26, [(25, .ireturn, 1, 0, 0, 0, .inl 0)])
  | n => (n, [])
theorem ck_105 : ∀ pc, px_cks pn_i105 (bk_105 pc).1 pc (bk_105 pc).2 = true := by
  intro pc
  unfold bk_105
  split <;> first | decide +kernel | simp [px_cks]
/-- NoThreeModel.matches(II)I -/
def bk_106 : Nat → Nat × List px_E := fun pc => match pc with
  | 0 => (12, [(0, .iload_n 1, 1, 1, 0, 0, .inl 0), (1, .aload_n 0, 1, 0, 0, 0, .inl 0), (2, .getfield 13, 3, 0, 1, 2, .inl 0), (5, .iconst 1, 1, 0, 0, 0, .inl (nI 1)), (6, .iaload, 1, 0, 0, 0, .inl 0), (7, .if_icmp .ne 5, 3, 12, 0, 0, .inl 0), (10, .iconst 1, 1, 0, 0, 0, .inl (nI 1)), (11, .ireturn, 1, 0, 0, 0, .inl 0)])
  | 12 => (14, [(12, .iconst 0, 1, 0, 0, 0, .inl (nI 0)), (13, .istore_n 3, 1, 3, 0, 0, .inl 0)])
  | 14 => (17, [(14, .iconst 0, 1, 0, 0, 0, .inl (nI 0)), (15, .istore 4, 2, 4, 0, 0, .inl 0)])
  | 17 => (38, [(17, .iload 4, 2, 4, 0, 0, .inl 0), (19, .aload_n 0, 1, 0, 0, 0, .inl 0), (20, .getfield 13, 3, 0, 1, 2, .inl 0), (23, .iconst 1, 1, 0, 0, 0, .inl (nI 1)), (24, .iaload, 1, 0, 0, 0, .inl 0), (25, .if_icmp .ge 117, 3, 142, 0, 0, .inl 0), (28, .iload_n 2, 1, 2, 0, 0, .inl 0), (29, .i2l, 1, 0, 0, 0, .inl 0), (30, .iload 4, 2, 4, 0, 0, .inl 0), (32, .invokestatic 151, 3, 14, 2, 0, .inl 0), (35, .ifCond .ne 7, 3, 42, 0, 0, .inl 0)])
  | 38 => (42, [(38, .iconst 1, 1, 0, 0, 0, .inl (nI 1)), (39, .goto 4, 3, 43, 0, 0, .inl 0)])
  | 42 => (43, [(42, .iconst 0, 1, 0, 0, 0, .inl (nI 0))])
  | 43 => (48, [(43, .istore 5, 2, 5, 0, 0, .inl 0), (45, .iconst 0, 1, 0, 0, 0, .inl (nI 0)), (46, .istore 6, 2, 6, 0, 0, .inl 0)])
  | 48 => (91, [(48, .iload 6, 2, 6, 0, 0, .inl 0), (50, .iload_n 1, 1, 1, 0, 0, .inl 0), (51, .if_icmp .ge 53, 3, 104, 0, 0, .inl 0), (54, .iload 5, 2, 5, 0, 0, .inl 0), (56, .ifCond .eq 48, 3, 104, 0, 0, .inl 0), (59, .aload_n 0, 1, 0, 0, 0, .inl 0), (60, .iload_n 1, 1, 1, 0, 0, .inl 0), (61, .invokevirtual 205, 3, 31, 2, 0, .inl 0), (64, .i2l, 1, 0, 0, 0, .inl 0), (65, .iload 6, 2, 6, 0, 0, .inl 0), (67, .invokestatic 151, 3, 14, 2, 0, .inl 0), (70, .aload_n 0, 1, 0, 0, 0, .inl 0), (71, .getfield 64, 3, 0, 28, 2, .inl 0), (74, .iload 4, 2, 4, 0, 0, .inl 0), (76, .iaload, 1, 0, 0, 0, .inl 0), (77, .i2l, 1, 0, 0, 0, .inl 0), (78, .aload_n 0, 1, 0, 0, 0, .inl 0), (79, .getfield 61, 3, 0, 27, 2, .inl 0), (82, .iload 6, 2, 6, 0, 0, .inl 0), (84, .iaload, 1, 0, 0, 0, .inl 0), (85, .invokestatic 151, 3, 14, 2, 0, .inl 0), (88, .if_icmp .ne 7, 3, 95, 0, 0, .inl 0)])
  | 91 => (95, [(91, .iconst 1, 1, 0, 0, 0, .inl (nI 1)), (92, .goto 4, 3, 96, 0, 0, .inl 0)])
  | 95 => (96, [(95, .iconst 0, 1, 0, 0, 0, .inl (nI 0))])
  | 96 => (104, [(96, .istore 5, 2, 5, 0, 0, .inl 0), (98, .iinc 6 1, 3, 6, 0, 0, .inl (nI 1)), (101, .goto (-53), 3, 48, 0, 0, .inl 0)])
  | 104 => (112, [(104, .iload 5, 2, 5, 0, 0, .inl 0), (106, .ifCond .ne 6, 3, 112, 0, 0, .inl 0), (109, .goto 27, 3, 136, 0, 0, .inl 0)])
  | 112 => (136, [(112, .aload_n 0, 1, 0, 0, 0, .inl 0), (113, .getfield 61, 3, 0, 27, 2, .inl 0), (116, .iload_n 1, 1, 1, 0, 0, .inl 0), (117, .iload 4, 2, 4, 0, 0, .inl 0), (119, .iastore, 1, 0, 0, 0, .inl 0), (120, .iload_n 3, 1, 3, 0, 0, .inl 0), (121, .aload_n 0, 1, 0, 0, 0, .inl 0), (122, .iload_n 1, 1, 1, 0, 0, .inl 0), (123, .iconst 1, 1, 0, 0, 0, .inl (nI 1)), (124, .iadd, 1, 0, 0, 0, .inl 0), (125, .iload_n 2, 1, 2, 0, 0, .inl 0), (126, .iconst 1, 1, 0, 0, 0, .inl (nI 1)), (127, .iload 4, 2, 4, 0, 0, .inl 0), (129, .ishl, 1, 0, 0, 0, .inl 0), (130, .ior, 1, 0, 0, 0, .inl 0), (131, .invokevirtual 366, 3, 106, 3, 0, .inl 0), (134, .iadd, 1, 0, 0, 0, .inl 0), (135, .istore_n 3, 1, 3, 0, 0, .inl 0)])
  | 136 => (142, [(136, .iinc 4 1, 3, 4, 0, 0, .inl (nI 1)), (139, .goto (-122), 3, 17, 0, 0, .inl 0)])
  | 142 => (144, [(142, .iload_n 3, 1, 3, 0, 0, .inl 0), (143, .ireturn, 1, 0, 0, 0, .inl 0)])
  | n => (n, [])
theorem ck_106 : ∀ pc, px_cks pn_i106 (bk_106 pc).1 pc (bk_106 pc).2 = true := by
  intro pc
  unfold bk_106
  split <;> first | decide +kernel | simp [px_cks]
/-- NoThreeModel.laysOther(I)V -/
def bk_107 : Nat → Nat × List px_E := fun pc => match pc with
  | 0 => (14, [(0, .aload_n 0, 1, 0, 0, 0, .inl 0), (1, .aload_n 0, 1, 0, 0, 0, .inl 0), (2, .getfield 13, 3, 0, 1, 2, .inl 0), (5, .iload_n 1, 1, 1, 0, 0, .inl 0), (6, .iconst 1, 1, 0, 0, 0, .inl (nI 1)), (7, .iadd, 1, 0, 0, 0, .inl 0), (8, .iaload, 1, 0, 0, 0, .inl 0), (9, .putfield 369, 3, 0, 30, 0, .inl 0), (12, .iconst 0, 1, 0, 0, 0, .inl (nI 0)), (13, .istore_n 2, 1, 2, 0, 0, .inl 0)])
  | 14 => (42, [(14, .iload_n 2, 1, 2, 0, 0, .inl 0), (15, .bipush 11, 2, 0, 0, 0, .inl (nI 11)), (17, .if_icmp .ge 25, 3, 42, 0, 0, .inl 0), (20, .aload_n 0, 1, 0, 0, 0, .inl 0), (21, .getfield 64, 3, 0, 28, 2, .inl 0), (24, .iload_n 2, 1, 2, 0, 0, .inl 0), (25, .aload_n 0, 1, 0, 0, 0, .inl 0), (26, .getfield 13, 3, 0, 1, 2, .inl 0), (29, .iload_n 1, 1, 1, 0, 0, .inl 0), (30, .iconst 2, 1, 0, 0, 0, .inl (nI 2)), (31, .iadd, 1, 0, 0, 0, .inl 0), (32, .iload_n 2, 1, 2, 0, 0, .inl 0), (33, .iadd, 1, 0, 0, 0, .inl 0), (34, .iaload, 1, 0, 0, 0, .inl 0), (35, .iastore, 1, 0, 0, 0, .inl 0), (36, .iinc 2 1, 3, 2, 0, 0, .inl (nI 1)), (39, .goto (-25), 3, 14, 0, 0, .inl 0)])
  | 42 => (43, [(42, .return_, 1, 0, 0, 0, .inl 0)])
  | n => (n, [])
theorem ck_107 : ∀ pc, px_cks pn_i107 (bk_107 pc).1 pc (bk_107 pc).2 = true := by
  intro pc
  unfold bk_107
  split <;> first | decide +kernel | simp [px_cks]
/-- NoThreeModel.selves()I -/
def bk_108 : Nat → Nat × List px_E := fun pc => match pc with
  | 0 => (19, [(0, .aload_n 0, 1, 0, 0, 0, .inl 0), (1, .iconst 0, 1, 0, 0, 0, .inl (nI 0)), (2, .putfield 1, 3, 0, 0, 0, .inl 0), (5, .aload_n 0, 1, 0, 0, 0, .inl 0), (6, .getfield 13, 3, 0, 1, 2, .inl 0), (9, .iconst 1, 1, 0, 0, 0, .inl (nI 1)), (10, .iaload, 1, 0, 0, 0, .inl 0), (11, .bipush 8, 2, 0, 0, 0, .inl (nI 8)), (13, .if_icmp .le 6, 3, 19, 0, 0, .inl 0), (16, .bipush (-4), 2, 0, 0, 0, .inl (-4)), (18, .ireturn, 1, 0, 0, 0, .inl 0)])
  | 19 => (31, [(19, .aload_n 0, 1, 0, 0, 0, .inl 0), (20, .iconst 0, 1, 0, 0, 0, .inl (nI 0)), (21, .invokevirtual 372, 3, 107, 2, 0, .inl 0), (24, .aload_n 0, 1, 0, 0, 0, .inl 0), (25, .iconst 0, 1, 0, 0, 0, .inl (nI 0)), (26, .iconst 0, 1, 0, 0, 0, .inl (nI 0)), (27, .invokevirtual 366, 3, 106, 3, 0, .inl 0), (30, .ireturn, 1, 0, 0, 0, .inl 0)])
  | n => (n, [])
theorem ck_108 : ∀ pc, px_cks pn_i108 (bk_108 pc).1 pc (bk_108 pc).2 = true := by
  intro pc
  unfold bk_108
  split <;> first | decide +kernel | simp [px_cks]
/-- NoThreeModel.alike(I)I -/
def bk_109 : Nat → Nat × List px_E := fun pc => match pc with
  | 0 => (18, [(0, .aload_n 0, 1, 0, 0, 0, .inl 0), (1, .iconst 0, 1, 0, 0, 0, .inl (nI 0)), (2, .putfield 1, 3, 0, 0, 0, .inl 0), (5, .iload_n 1, 1, 1, 0, 0, .inl 0), (6, .i2l, 1, 0, 0, 0, .inl 0), (7, .lconst 0, 1, 0, 0, 0, .inr (.inl (lN 0))), (8, .lconst 1, 1, 0, 0, 0, .inr (.inl (lN 1))), (9, .invokestatic 141, 3, 2, 3, 0, .inl 0), (12, .ifCond .ne 6, 3, 18, 0, 0, .inl 0), (15, .bipush (-2), 2, 0, 0, 0, .inl (-2)), (17, .ireturn, 1, 0, 0, 0, .inl 0)])
  | 18 => (30, [(18, .aload_n 0, 1, 0, 0, 0, .inl 0), (19, .getfield 17, 3, 0, 2, 2, .inl 0), (22, .iload_n 1, 1, 1, 0, 0, .inl 0), (23, .baload, 1, 0, 0, 0, .inl 0), (24, .ifCond .ne 6, 3, 30, 0, 0, .inl 0), (27, .bipush (-5), 2, 0, 0, 0, .inl (-5)), (29, .ireturn, 1, 0, 0, 0, .inl 0)])
  | 30 => (41, [(30, .aload_n 0, 1, 0, 0, 0, .inl 0), (31, .sipush 1072, 3, 0, 0, 0, .inl (nI 1072)), (34, .iload_n 1, 1, 1, 0, 0, .inl 0), (35, .iconst 1, 1, 0, 0, 0, .inl (nI 1)), (36, .iadd, 1, 0, 0, 0, .inl 0), (37, .imul, 1, 0, 0, 0, .inl 0), (38, .invokevirtual 372, 3, 107, 2, 0, .inl 0)])
  | 41 => (61, [(41, .aload_n 0, 1, 0, 0, 0, .inl 0), (42, .getfield 13, 3, 0, 1, 2, .inl 0), (45, .iconst 1, 1, 0, 0, 0, .inl (nI 1)), (46, .iaload, 1, 0, 0, 0, .inl 0), (47, .bipush 8, 2, 0, 0, 0, .inl (nI 8)), (49, .if_icmp .gt 12, 3, 61, 0, 0, .inl 0), (52, .aload_n 0, 1, 0, 0, 0, .inl 0), (53, .getfield 369, 3, 0, 30, 0, .inl 0), (56, .bipush 8, 2, 0, 0, 0, .inl (nI 8)), (58, .if_icmp .le 6, 3, 64, 0, 0, .inl 0)])
  | 61 => (64, [(61, .bipush (-4), 2, 0, 0, 0, .inl (-4)), (63, .ireturn, 1, 0, 0, 0, .inl 0)])
  | 64 => (86, [(64, .aload_n 0, 1, 0, 0, 0, .inl 0), (65, .getfield 369, 3, 0, 30, 0, .inl 0), (68, .aload_n 0, 1, 0, 0, 0, .inl 0), (69, .getfield 13, 3, 0, 1, 2, .inl 0), (72, .iconst 1, 1, 0, 0, 0, .inl (nI 1)), (73, .iaload, 1, 0, 0, 0, .inl 0), (74, .if_icmp .ne 16, 3, 90, 0, 0, .inl 0), (77, .aload_n 0, 1, 0, 0, 0, .inl 0), (78, .iconst 0, 1, 0, 0, 0, .inl (nI 0)), (79, .iconst 0, 1, 0, 0, 0, .inl (nI 0)), (80, .invokevirtual 366, 3, 106, 3, 0, .inl 0), (83, .ifCond .le 7, 3, 90, 0, 0, .inl 0)])
  | 86 => (90, [(86, .iconst 1, 1, 0, 0, 0, .inl (nI 1)), (87, .goto 4, 3, 91, 0, 0, .inl 0)])
  | 90 => (91, [(90, .iconst 0, 1, 0, 0, 0, .inl (nI 0))])
  | 91 => (92, [(91, .ireturn, 1, 0, 0, 0, .inl 0)])
  | n => (n, [])
theorem ck_109 : ∀ pc, px_cks pn_i109 (bk_109 pc).1 pc (bk_109 pc).2 = true := by
  intro pc
  unfold bk_109
  split <;> first | decide +kernel | simp [px_cks]
/-- NoThreeModel.becomes(II)V -/
def bk_110 : Nat → Nat × List px_E := fun pc => match pc with
  | 0 => (9, [(0, .aload_n 0, 1, 0, 0, 0, .inl 0), (1, .getfield 13, 3, 0, 1, 2, .inl 0), (4, .iconst 1, 1, 0, 0, 0, .inl (nI 1)), (5, .iload_n 1, 1, 1, 0, 0, .inl 0), (6, .iastore, 1, 0, 0, 0, .inl 0), (7, .iconst 0, 1, 0, 0, 0, .inl (nI 0)), (8, .istore_n 3, 1, 3, 0, 0, .inl 0)])
  | 9 => (30, [(9, .iload_n 3, 1, 3, 0, 0, .inl 0), (10, .bipush 11, 2, 0, 0, 0, .inl (nI 11)), (12, .if_icmp .ge 18, 3, 30, 0, 0, .inl 0), (15, .aload_n 0, 1, 0, 0, 0, .inl 0), (16, .getfield 13, 3, 0, 1, 2, .inl 0), (19, .iconst 2, 1, 0, 0, 0, .inl (nI 2)), (20, .iload_n 3, 1, 3, 0, 0, .inl 0), (21, .iadd, 1, 0, 0, 0, .inl 0), (22, .iconst 0, 1, 0, 0, 0, .inl (nI 0)), (23, .iastore, 1, 0, 0, 0, .inl 0), (24, .iinc 3 1, 3, 3, 0, 0, .inl (nI 1)), (27, .goto (-18), 3, 9, 0, 0, .inl 0)])
  | 30 => (32, [(30, .iconst 0, 1, 0, 0, 0, .inl (nI 0)), (31, .istore_n 3, 1, 3, 0, 0, .inl 0)])
  | 32 => (40, [(32, .iload_n 3, 1, 3, 0, 0, .inl 0), (33, .iload_n 1, 1, 1, 0, 0, .inl 0), (34, .if_icmp .ge 48, 3, 82, 0, 0, .inl 0), (37, .iconst 0, 1, 0, 0, 0, .inl (nI 0)), (38, .istore 4, 2, 4, 0, 0, .inl 0)])
  | 40 => (70, [(40, .iload 4, 2, 4, 0, 0, .inl 0), (42, .iload_n 3, 1, 3, 0, 0, .inl 0), (43, .if_icmp .ge 33, 3, 76, 0, 0, .inl 0), (46, .iload_n 2, 1, 2, 0, 0, .inl 0), (47, .i2l, 1, 0, 0, 0, .inl 0), (48, .iload_n 3, 1, 3, 0, 0, .inl 0), (49, .iload 4, 2, 4, 0, 0, .inl 0), (51, .invokestatic 357, 3, 102, 2, 0, .inl 0), (54, .invokestatic 151, 3, 14, 2, 0, .inl 0), (57, .ifCond .eq 13, 3, 70, 0, 0, .inl 0), (60, .aload_n 0, 1, 0, 0, 0, .inl 0), (61, .getfield 13, 3, 0, 1, 2, .inl 0), (64, .iload_n 3, 1, 3, 0, 0, .inl 0), (65, .iload 4, 2, 4, 0, 0, .inl 0), (67, .invokestatic 155, 3, 15, 3, 0, .inl 0)])
  | 70 => (76, [(70, .iinc 4 1, 3, 4, 0, 0, .inl (nI 1)), (73, .goto (-33), 3, 40, 0, 0, .inl 0)])
  | 76 => (82, [(76, .iinc 3 1, 3, 3, 0, 0, .inl (nI 1)), (79, .goto (-47), 3, 32, 0, 0, .inl 0)])
  | 82 => (83, [(82, .return_, 1, 0, 0, 0, .inl 0)])
  | n => (n, [])
theorem ck_110 : ∀ pc, px_cks pn_i110 (bk_110 pc).1 pc (bk_110 pc).2 = true := by
  intro pc
  unfold bk_110
  split <;> first | decide +kernel | simp [px_cks]
/-- NoThreeModel.isPlain(Z)Z -/
def bk_111 : Nat → Nat × List px_E := fun pc => match pc with
  | 0 => (2, [(0, .iconst 0, 1, 0, 0, 0, .inl (nI 0)), (1, .istore_n 2, 1, 2, 0, 0, .inl 0)])
  | 2 => (32, [(2, .iload_n 2, 1, 2, 0, 0, .inl 0), (3, .aload_n 0, 1, 0, 0, 0, .inl 0), (4, .getfield 13, 3, 0, 1, 2, .inl 0), (7, .iconst 1, 1, 0, 0, 0, .inl (nI 1)), (8, .iaload, 1, 0, 0, 0, .inl 0), (9, .if_icmp .ge 31, 3, 40, 0, 0, .inl 0), (12, .aload_n 0, 1, 0, 0, 0, .inl 0), (13, .iload_n 2, 1, 2, 0, 0, .inl 0), (14, .invokevirtual 218, 3, 33, 2, 0, .inl 0), (17, .ifCond .gt 15, 3, 32, 0, 0, .inl 0), (20, .iload_n 1, 1, 1, 0, 0, .inl 0), (21, .ifCond .eq 13, 3, 34, 0, 0, .inl 0), (24, .aload_n 0, 1, 0, 0, 0, .inl 0), (25, .iload_n 2, 1, 2, 0, 0, .inl 0), (26, .invokevirtual 221, 3, 34, 2, 0, .inl 0), (29, .ifCond .le 5, 3, 34, 0, 0, .inl 0)])
  | 32 => (34, [(32, .iconst 0, 1, 0, 0, 0, .inl (nI 0)), (33, .ireturn, 1, 0, 0, 0, .inl 0)])
  | 34 => (40, [(34, .iinc 2 1, 3, 2, 0, 0, .inl (nI 1)), (37, .goto (-35), 3, 2, 0, 0, .inl 0)])
  | 40 => (42, [(40, .iconst 1, 1, 0, 0, 0, .inl (nI 1)), (41, .ireturn, 1, 0, 0, 0, .inl 0)])
  | n => (n, [])
theorem ck_111 : ∀ pc, px_cks pn_i111 (bk_111 pc).1 pc (bk_111 pc).2 = true := by
  intro pc
  unfold bk_111
  split <;> first | decide +kernel | simp [px_cks]
/-- NoThreeModel.unlike(IZ)I -/
def bk_112 : Nat → Nat × List px_E := fun pc => match pc with
  | 0 => (20, [(0, .aload_n 0, 1, 0, 0, 0, .inl 0), (1, .iconst 0, 1, 0, 0, 0, .inl (nI 0)), (2, .putfield 1, 3, 0, 0, 0, .inl 0), (5, .iload_n 1, 1, 1, 0, 0, .inl 0), (6, .i2l, 1, 0, 0, 0, .inl 0), (7, .lconst 0, 1, 0, 0, 0, .inr (.inl (lN 0))), (8, .ldc2_w 375, 3, 0, 0, 0, .inr (.inl (lN 5))), (11, .invokestatic 141, 3, 2, 3, 0, .inl 0), (14, .ifCond .ne 6, 3, 20, 0, 0, .inl 0), (17, .bipush (-3), 2, 0, 0, 0, .inl (-3)), (19, .ireturn, 1, 0, 0, 0, .inl 0)])
  | 20 => (28, [(20, .aload_n 0, 1, 0, 0, 0, .inl 0), (21, .aload_n 0, 1, 0, 0, 0, .inl 0), (22, .getfield 39, 3, 0, 18, 2, .inl 0), (25, .invokevirtual 270, 3, 52, 2, 0, .inl 0)])
  | 28 => (33, [(28, .iconst 0, 1, 0, 0, 0, .inl (nI 0)), (29, .istore_n 3, 1, 3, 0, 0, .inl 0), (30, .iconst 0, 1, 0, 0, 0, .inl (nI 0)), (31, .istore 4, 2, 4, 0, 0, .inl 0)])
  | 33 => (54, [(33, .iload 4, 2, 4, 0, 0, .inl 0), (35, .iconst 1, 1, 0, 0, 0, .inl (nI 1)), (36, .iload_n 1, 1, 1, 0, 0, .inl 0), (37, .iload_n 1, 1, 1, 0, 0, .inl 0), (38, .iconst 1, 1, 0, 0, 0, .inl (nI 1)), (39, .isub, 1, 0, 0, 0, .inl 0), (40, .imul, 1, 0, 0, 0, .inl 0), (41, .iconst 2, 1, 0, 0, 0, .inl (nI 2)), (42, .idiv, 1, 0, 0, 0, .inl 0), (43, .ishl, 1, 0, 0, 0, .inl 0), (44, .if_icmp .ge 41, 3, 85, 0, 0, .inl 0), (47, .aload_n 0, 1, 0, 0, 0, .inl 0), (48, .iload_n 1, 1, 1, 0, 0, .inl 0), (49, .iload 4, 2, 4, 0, 0, .inl 0), (51, .invokevirtual 377, 3, 110, 3, 0, .inl 0)])
  | 54 => (76, [(54, .iload_n 3, 1, 3, 0, 0, .inl 0), (55, .aload_n 0, 1, 0, 0, 0, .inl 0), (56, .iload_n 2, 1, 2, 0, 0, .inl 0), (57, .invokevirtual 380, 3, 111, 2, 0, .inl 0), (60, .ifCond .eq 16, 3, 76, 0, 0, .inl 0), (63, .aload_n 0, 1, 0, 0, 0, .inl 0), (64, .invokevirtual 363, 3, 104, 1, 0, .inl 0), (67, .iload 4, 2, 4, 0, 0, .inl 0), (69, .if_icmp .ne 7, 3, 76, 0, 0, .inl 0), (72, .iconst 1, 1, 0, 0, 0, .inl (nI 1)), (73, .goto 4, 3, 77, 0, 0, .inl 0)])
  | 76 => (77, [(76, .iconst 0, 1, 0, 0, 0, .inl (nI 0))])
  | 77 => (79, [(77, .iadd, 1, 0, 0, 0, .inl 0), (78, .istore_n 3, 1, 3, 0, 0, .inl 0)])
  | 79 => (85, [(79, .iinc 4 1, 3, 4, 0, 0, .inl (nI 1)), (82, .goto (-49), 3, 33, 0, 0, .inl 0)])
  | 85 => (93, [(85, .aload_n 0, 1, 0, 0, 0, .inl 0), (86, .aload_n 0, 1, 0, 0, 0, .inl 0), (87, .getfield 39, 3, 0, 18, 2, .inl 0), (90, .invokevirtual 277, 3, 53, 2, 0, .inl 0)])
  | 93 => (95, [(93, .iload_n 3, 1, 3, 0, 0, .inl 0), (94, .ireturn, 1, 0, 0, 0, .inl 0)])
  | n => (n, [])
theorem ck_112 : ∀ pc, px_cks pn_i112 (bk_112 pc).1 pc (bk_112 pc).2 = true := by
  intro pc
  unfold bk_112
  split <;> first | decide +kernel | simp [px_cks]
/-- NoThreeModel.mostDoors(IZ)I -/
def bk_113 : Nat → Nat × List px_E := fun pc => match pc with
  | 0 => (20, [(0, .aload_n 0, 1, 0, 0, 0, .inl 0), (1, .iconst 0, 1, 0, 0, 0, .inl (nI 0)), (2, .putfield 1, 3, 0, 0, 0, .inl 0), (5, .iload_n 1, 1, 1, 0, 0, .inl 0), (6, .i2l, 1, 0, 0, 0, .inl 0), (7, .lconst 0, 1, 0, 0, 0, .inr (.inl (lN 0))), (8, .ldc2_w 338, 3, 0, 0, 0, .inr (.inl (lN 6))), (11, .invokestatic 141, 3, 2, 3, 0, .inl 0), (14, .ifCond .ne 6, 3, 20, 0, 0, .inl 0), (17, .bipush (-3), 2, 0, 0, 0, .inl (-3)), (19, .ireturn, 1, 0, 0, 0, .inl 0)])
  | 20 => (28, [(20, .aload_n 0, 1, 0, 0, 0, .inl 0), (21, .aload_n 0, 1, 0, 0, 0, .inl 0), (22, .getfield 39, 3, 0, 18, 2, .inl 0), (25, .invokevirtual 270, 3, 52, 2, 0, .inl 0)])
  | 28 => (33, [(28, .iconst 0, 1, 0, 0, 0, .inl (nI 0)), (29, .istore_n 3, 1, 3, 0, 0, .inl 0), (30, .iconst 0, 1, 0, 0, 0, .inl (nI 0)), (31, .istore 4, 2, 4, 0, 0, .inl 0)])
  | 33 => (62, [(33, .iload 4, 2, 4, 0, 0, .inl 0), (35, .iconst 1, 1, 0, 0, 0, .inl (nI 1)), (36, .iload_n 1, 1, 1, 0, 0, .inl 0), (37, .iload_n 1, 1, 1, 0, 0, .inl 0), (38, .iconst 1, 1, 0, 0, 0, .inl (nI 1)), (39, .isub, 1, 0, 0, 0, .inl 0), (40, .imul, 1, 0, 0, 0, .inl 0), (41, .iconst 2, 1, 0, 0, 0, .inl (nI 2)), (42, .idiv, 1, 0, 0, 0, .inl 0), (43, .ishl, 1, 0, 0, 0, .inl 0), (44, .if_icmp .ge 37, 3, 81, 0, 0, .inl 0), (47, .aload_n 0, 1, 0, 0, 0, .inl 0), (48, .iload_n 1, 1, 1, 0, 0, .inl 0), (49, .iload 4, 2, 4, 0, 0, .inl 0), (51, .invokevirtual 377, 3, 110, 3, 0, .inl 0), (54, .aload_n 0, 1, 0, 0, 0, .inl 0), (55, .invokevirtual 237, 3, 45, 1, 0, .inl 0), (58, .iload_n 3, 1, 3, 0, 0, .inl 0), (59, .if_icmp .le 16, 3, 75, 0, 0, .inl 0)])
  | 62 => (75, [(62, .aload_n 0, 1, 0, 0, 0, .inl 0), (63, .iload_n 2, 1, 2, 0, 0, .inl 0), (64, .invokevirtual 380, 3, 111, 2, 0, .inl 0), (67, .ifCond .eq 8, 3, 75, 0, 0, .inl 0), (70, .aload_n 0, 1, 0, 0, 0, .inl 0), (71, .invokevirtual 237, 3, 45, 1, 0, .inl 0), (74, .istore_n 3, 1, 3, 0, 0, .inl 0)])
  | 75 => (81, [(75, .iinc 4 1, 3, 4, 0, 0, .inl (nI 1)), (78, .goto (-45), 3, 33, 0, 0, .inl 0)])
  | 81 => (91, [(81, .aload_n 0, 1, 0, 0, 0, .inl 0), (82, .aload_n 0, 1, 0, 0, 0, .inl 0), (83, .getfield 39, 3, 0, 18, 2, .inl 0), (86, .invokevirtual 277, 3, 53, 2, 0, .inl 0), (89, .iload_n 3, 1, 3, 0, 0, .inl 0), (90, .ireturn, 1, 0, 0, 0, .inl 0)])
  | n => (n, [])
theorem ck_113 : ∀ pc, px_cks pn_i113 (bk_113 pc).1 pc (bk_113 pc).2 = true := by
  intro pc
  unfold bk_113
  split <;> first | decide +kernel | simp [px_cks]
/-- NoThreeModel.laysThree()Z -/
def bk_114 : Nat → Nat × List px_E := fun pc => match pc with
  | 0 => (2, [(0, .iconst 0, 1, 0, 0, 0, .inl (nI 0)), (1, .istore_n 1, 1, 1, 0, 0, .inl 0)])
  | 2 => (16, [(2, .iload_n 1, 1, 1, 0, 0, .inl 0), (3, .aload_n 0, 1, 0, 0, 0, .inl 0), (4, .getfield 13, 3, 0, 1, 2, .inl 0), (7, .iconst 1, 1, 0, 0, 0, .inl (nI 1)), (8, .iaload, 1, 0, 0, 0, .inl 0), (9, .if_icmp .ge 118, 3, 127, 0, 0, .inl 0), (12, .iload_n 1, 1, 1, 0, 0, .inl 0), (13, .iconst 1, 1, 0, 0, 0, .inl (nI 1)), (14, .iadd, 1, 0, 0, 0, .inl 0), (15, .istore_n 2, 1, 2, 0, 0, .inl 0)])
  | 16 => (30, [(16, .iload_n 2, 1, 2, 0, 0, .inl 0), (17, .aload_n 0, 1, 0, 0, 0, .inl 0), (18, .getfield 13, 3, 0, 1, 2, .inl 0), (21, .iconst 1, 1, 0, 0, 0, .inl (nI 1)), (22, .iaload, 1, 0, 0, 0, .inl 0), (23, .if_icmp .ge 98, 3, 121, 0, 0, .inl 0), (26, .iload_n 2, 1, 2, 0, 0, .inl 0), (27, .iconst 1, 1, 0, 0, 0, .inl (nI 1)), (28, .iadd, 1, 0, 0, 0, .inl 0), (29, .istore_n 3, 1, 3, 0, 0, .inl 0)])
  | 30 => (53, [(30, .iload_n 3, 1, 3, 0, 0, .inl 0), (31, .aload_n 0, 1, 0, 0, 0, .inl 0), (32, .getfield 13, 3, 0, 1, 2, .inl 0), (35, .iconst 1, 1, 0, 0, 0, .inl (nI 1)), (36, .iaload, 1, 0, 0, 0, .inl 0), (37, .if_icmp .ge 48, 3, 85, 0, 0, .inl 0), (40, .aload_n 0, 1, 0, 0, 0, .inl 0), (41, .iload_n 1, 1, 1, 0, 0, .inl 0), (42, .invokevirtual 205, 3, 31, 2, 0, .inl 0), (45, .i2l, 1, 0, 0, 0, .inl 0), (46, .iload_n 2, 1, 2, 0, 0, .inl 0), (47, .invokestatic 151, 3, 14, 2, 0, .inl 0), (50, .ifCond .eq 29, 3, 79, 0, 0, .inl 0)])
  | 53 => (66, [(53, .aload_n 0, 1, 0, 0, 0, .inl 0), (54, .iload_n 1, 1, 1, 0, 0, .inl 0), (55, .invokevirtual 205, 3, 31, 2, 0, .inl 0), (58, .i2l, 1, 0, 0, 0, .inl 0), (59, .iload_n 3, 1, 3, 0, 0, .inl 0), (60, .invokestatic 151, 3, 14, 2, 0, .inl 0), (63, .ifCond .eq 16, 3, 79, 0, 0, .inl 0)])
  | 66 => (79, [(66, .aload_n 0, 1, 0, 0, 0, .inl 0), (67, .iload_n 2, 1, 2, 0, 0, .inl 0), (68, .invokevirtual 205, 3, 31, 2, 0, .inl 0), (71, .i2l, 1, 0, 0, 0, .inl 0), (72, .iload_n 3, 1, 3, 0, 0, .inl 0), (73, .invokestatic 151, 3, 14, 2, 0, .inl 0), (76, .ifCond .ne 9, 3, 85, 0, 0, .inl 0)])
  | 79 => (85, [(79, .iinc 3 1, 3, 3, 0, 0, .inl (nI 1)), (82, .goto (-52), 3, 30, 0, 0, .inl 0)])
  | 85 => (98, [(85, .iload_n 3, 1, 3, 0, 0, .inl 0), (86, .aload_n 0, 1, 0, 0, 0, .inl 0), (87, .getfield 13, 3, 0, 1, 2, .inl 0), (90, .iconst 1, 1, 0, 0, 0, .inl (nI 1)), (91, .iaload, 1, 0, 0, 0, .inl 0), (92, .if_icmp .lt 6, 3, 98, 0, 0, .inl 0), (95, .goto 20, 3, 115, 0, 0, .inl 0)])
  | 98 => (115, [(98, .aload_n 0, 1, 0, 0, 0, .inl 0), (99, .iload_n 1, 1, 1, 0, 0, .inl 0), (100, .putfield 384, 3, 0, 32, 0, .inl 0), (103, .aload_n 0, 1, 0, 0, 0, .inl 0), (104, .iload_n 2, 1, 2, 0, 0, .inl 0), (105, .putfield 387, 3, 0, 33, 0, .inl 0), (108, .aload_n 0, 1, 0, 0, 0, .inl 0), (109, .iload_n 3, 1, 3, 0, 0, .inl 0), (110, .putfield 390, 3, 0, 34, 0, .inl 0), (113, .iconst 1, 1, 0, 0, 0, .inl (nI 1)), (114, .ireturn, 1, 0, 0, 0, .inl 0)])
  | 115 => (121, [(115, .iinc 2 1, 3, 2, 0, 0, .inl (nI 1)), (118, .goto (-102), 3, 16, 0, 0, .inl 0)])
  | 121 => (127, [(121, .iinc 1 1, 3, 1, 0, 0, .inl (nI 1)), (124, .goto (-122), 3, 2, 0, 0, .inl 0)])
  | 127 => (129, [(127, .iconst 0, 1, 0, 0, 0, .inl (nI 0)), (128, .ireturn, 1, 0, 0, 0, .inl 0)])
  | n => (n, [])
theorem ck_114 : ∀ pc, px_cks pn_i114 (bk_114 pc).1 pc (bk_114 pc).2 = true := by
  intro pc
  unfold bk_114
  split <;> first | decide +kernel | simp [px_cks]
/-- NoThreeModel.curesBy(IIII)Z -/
def bk_115 : Nat → Nat × List px_E := fun pc => match pc with
  | 0 => (13, [(0, .bipush 100, 2, 0, 0, 0, .inl (nI 100)), (2, .iload_n 1, 1, 1, 0, 0, .inl 0), (3, .imul, 1, 0, 0, 0, .inl 0), (4, .iload_n 2, 1, 2, 0, 0, .inl 0), (5, .iadd, 1, 0, 0, 0, .inl 0), (6, .iload 4, 2, 4, 0, 0, .inl 0), (8, .if_icmp .gt 5, 3, 13, 0, 0, .inl 0), (11, .iconst 0, 1, 0, 0, 0, .inl (nI 0)), (12, .ireturn, 1, 0, 0, 0, .inl 0)])
  | 13 => (30, [(13, .aload_n 0, 1, 0, 0, 0, .inl 0), (14, .iload_n 1, 1, 1, 0, 0, .inl 0), (15, .iload_n 2, 1, 2, 0, 0, .inl 0), (16, .invokevirtual 287, 3, 59, 3, 0, .inl 0), (19, .aload_n 0, 1, 0, 0, 0, .inl 0), (20, .iload_n 3, 1, 3, 0, 0, .inl 0), (21, .iconst 1, 1, 0, 0, 0, .inl (nI 1)), (22, .isub, 1, 0, 0, 0, .inl 0), (23, .iload 4, 2, 4, 0, 0, .inl 0), (25, .invokevirtual 393, 3, 116, 3, 0, .inl 0), (28, .istore 5, 2, 5, 0, 0, .inl 0)])
  | 30 => (42, [(30, .aload_n 0, 1, 0, 0, 0, .inl 0), (31, .getfield 13, 3, 0, 1, 2, .inl 0), (34, .iload_n 1, 1, 1, 0, 0, .inl 0), (35, .iload_n 2, 1, 2, 0, 0, .inl 0), (36, .invokestatic 155, 3, 15, 3, 0, .inl 0), (39, .iload 5, 2, 5, 0, 0, .inl 0), (41, .ireturn, 1, 0, 0, 0, .inl 0)])
  | n => (n, [])
theorem ck_115 : ∀ pc, px_cks pn_i115 (bk_115 pc).1 pc (bk_115 pc).2 = true := by
  intro pc
  unfold bk_115
  split <;> first | decide +kernel | simp [px_cks]
/-- NoThreeModel.canCure(II)Z -/
def bk_116 : Nat → Nat × List px_E := fun pc => match pc with
  | 0 => (9, [(0, .aload_n 0, 1, 0, 0, 0, .inl 0), (1, .invokevirtual 396, 3, 114, 1, 0, .inl 0), (4, .ifCond .ne 5, 3, 9, 0, 0, .inl 0), (7, .iconst 1, 1, 0, 0, 0, .inl (nI 1)), (8, .ireturn, 1, 0, 0, 0, .inl 0)])
  | 9 => (15, [(9, .iload_n 1, 1, 1, 0, 0, .inl 0), (10, .ifCond .ne 5, 3, 15, 0, 0, .inl 0), (13, .iconst 0, 1, 0, 0, 0, .inl (nI 0)), (14, .ireturn, 1, 0, 0, 0, .inl 0)])
  | 15 => (44, [(15, .aload_n 0, 1, 0, 0, 0, .inl 0), (16, .getfield 384, 3, 0, 32, 0, .inl 0), (19, .istore_n 3, 1, 3, 0, 0, .inl 0), (20, .aload_n 0, 1, 0, 0, 0, .inl 0), (21, .getfield 387, 3, 0, 33, 0, .inl 0), (24, .istore 4, 2, 4, 0, 0, .inl 0), (26, .aload_n 0, 1, 0, 0, 0, .inl 0), (27, .getfield 390, 3, 0, 34, 0, .inl 0), (30, .istore 5, 2, 5, 0, 0, .inl 0), (32, .aload_n 0, 1, 0, 0, 0, .inl 0), (33, .iload_n 3, 1, 3, 0, 0, .inl 0), (34, .iload 4, 2, 4, 0, 0, .inl 0), (36, .iload_n 1, 1, 1, 0, 0, .inl 0), (37, .iload_n 2, 1, 2, 0, 0, .inl 0), (38, .invokevirtual 400, 3, 115, 5, 0, .inl 0), (41, .ifCond .ne 28, 3, 69, 0, 0, .inl 0)])
  | 44 => (69, [(44, .aload_n 0, 1, 0, 0, 0, .inl 0), (45, .iload_n 3, 1, 3, 0, 0, .inl 0), (46, .iload 5, 2, 5, 0, 0, .inl 0), (48, .iload_n 1, 1, 1, 0, 0, .inl 0), (49, .iload_n 2, 1, 2, 0, 0, .inl 0), (50, .invokevirtual 400, 3, 115, 5, 0, .inl 0), (53, .ifCond .ne 16, 3, 69, 0, 0, .inl 0), (56, .aload_n 0, 1, 0, 0, 0, .inl 0), (57, .iload 4, 2, 4, 0, 0, .inl 0), (59, .iload 5, 2, 5, 0, 0, .inl 0), (61, .iload_n 1, 1, 1, 0, 0, .inl 0), (62, .iload_n 2, 1, 2, 0, 0, .inl 0), (63, .invokevirtual 400, 3, 115, 5, 0, .inl 0), (66, .ifCond .eq 7, 3, 73, 0, 0, .inl 0)])
  | 69 => (73, [(69, .iconst 1, 1, 0, 0, 0, .inl (nI 1)), (70, .goto 4, 3, 74, 0, 0, .inl 0)])
  | 73 => (74, [(73, .iconst 0, 1, 0, 0, 0, .inl (nI 0))])
  | 74 => (75, [(74, .ireturn, 1, 0, 0, 0, .inl 0)])
  | n => (n, [])
theorem ck_116 : ∀ pc, px_cks pn_i116 (bk_116 pc).1 pc (bk_116 pc).2 = true := by
  intro pc
  unfold bk_116
  split <;> first | decide +kernel | simp [px_cks]
/-- NoThreeModel.cure(I)I -/
def bk_117 : Nat → Nat × List px_E := fun pc => match pc with
  | 0 => (26, [(0, .aload_n 0, 1, 0, 0, 0, .inl 0), (1, .iconst 0, 1, 0, 0, 0, .inl (nI 0)), (2, .putfield 1, 3, 0, 0, 0, .inl 0), (5, .iload_n 1, 1, 1, 0, 0, .inl 0), (6, .ifCond .eq 20, 3, 26, 0, 0, .inl 0), (9, .iload_n 1, 1, 1, 0, 0, .inl 0), (10, .i2l, 1, 0, 0, 0, .inl 0), (11, .ldc2_w 352, 3, 0, 0, 0, .inr (.inl (lN 10))), (14, .ldc2_w 404, 3, 0, 0, 0, .inr (.inl (lN 15))), (17, .invokestatic 141, 3, 2, 3, 0, .inl 0), (20, .ifCond .ne 6, 3, 26, 0, 0, .inl 0), (23, .bipush (-2), 2, 0, 0, 0, .inl (-2)), (25, .ireturn, 1, 0, 0, 0, .inl 0)])
  | 26 => (28, [(26, .iconst 0, 1, 0, 0, 0, .inl (nI 0)), (27, .istore_n 2, 1, 2, 0, 0, .inl 0)])
  | 28 => (49, [(28, .iload_n 2, 1, 2, 0, 0, .inl 0), (29, .bipush 7, 2, 0, 0, 0, .inl (nI 7)), (31, .if_icmp .ge 18, 3, 49, 0, 0, .inl 0), (34, .aload_n 0, 1, 0, 0, 0, .inl 0), (35, .iload_n 2, 1, 2, 0, 0, .inl 0), (36, .iconst (-1), 1, 0, 0, 0, .inl (-1)), (37, .invokevirtual 393, 3, 116, 3, 0, .inl 0), (40, .ifCond .ne 9, 3, 49, 0, 0, .inl 0), (43, .iinc 2 1, 3, 2, 0, 0, .inl (nI 1)), (46, .goto (-18), 3, 28, 0, 0, .inl 0)])
  | 49 => (58, [(49, .iload_n 2, 1, 2, 0, 0, .inl 0), (50, .bipush 7, 2, 0, 0, 0, .inl (nI 7)), (52, .if_icmp .ne 6, 3, 58, 0, 0, .inl 0), (55, .bipush (-4), 2, 0, 0, 0, .inl (-4)), (57, .ireturn, 1, 0, 0, 0, .inl 0)])
  | 58 => (64, [(58, .iload_n 1, 1, 1, 0, 0, .inl 0), (59, .ifCond .ne 5, 3, 64, 0, 0, .inl 0), (62, .iload_n 2, 1, 2, 0, 0, .inl 0), (63, .ireturn, 1, 0, 0, 0, .inl 0)])
  | 64 => (74, [(64, .iload_n 1, 1, 1, 0, 0, .inl 0), (65, .bipush 10, 2, 0, 0, 0, .inl (nI 10)), (67, .isub, 1, 0, 0, 0, .inl 0), (68, .iload_n 2, 1, 2, 0, 0, .inl 0), (69, .if_icmp .lt 5, 3, 74, 0, 0, .inl 0), (72, .iconst (-1), 1, 0, 0, 0, .inl (-1)), (73, .ireturn, 1, 0, 0, 0, .inl 0)])
  | 74 => (87, [(74, .aload_n 0, 1, 0, 0, 0, .inl 0), (75, .aload_n 0, 1, 0, 0, 0, .inl 0), (76, .getfield 39, 3, 0, 18, 2, .inl 0), (79, .invokevirtual 270, 3, 52, 2, 0, .inl 0), (82, .iconst (-1), 1, 0, 0, 0, .inl (-1)), (83, .istore_n 3, 1, 3, 0, 0, .inl 0), (84, .iconst 0, 1, 0, 0, 0, .inl (nI 0)), (85, .istore 4, 2, 4, 0, 0, .inl 0)])
  | 87 => (98, [(87, .iload 4, 2, 4, 0, 0, .inl 0), (89, .iload_n 2, 1, 2, 0, 0, .inl 0), (90, .if_icmp .ge 47, 3, 137, 0, 0, .inl 0), (93, .iload_n 3, 1, 3, 0, 0, .inl 0), (94, .iconst 1, 1, 0, 0, 0, .inl (nI 1)), (95, .iadd, 1, 0, 0, 0, .inl 0), (96, .istore 5, 2, 5, 0, 0, .inl 0)])
  | 98 => (119, [(98, .aload_n 0, 1, 0, 0, 0, .inl 0), (99, .iload 5, 2, 5, 0, 0, .inl 0), (101, .iload_n 2, 1, 2, 0, 0, .inl 0), (102, .iload 4, 2, 4, 0, 0, .inl 0), (104, .isub, 1, 0, 0, 0, .inl 0), (105, .iconst 1, 1, 0, 0, 0, .inl (nI 1)), (106, .isub, 1, 0, 0, 0, .inl 0), (107, .invokevirtual 406, 3, 118, 3, 0, .inl 0), (110, .ifCond .ne 9, 3, 119, 0, 0, .inl 0), (113, .iinc 5 1, 3, 5, 0, 0, .inl (nI 1)), (116, .goto (-18), 3, 98, 0, 0, .inl 0)])
  | 119 => (137, [(119, .aload_n 0, 1, 0, 0, 0, .inl 0), (120, .getfield 67, 3, 0, 31, 2, .inl 0), (123, .iload 4, 2, 4, 0, 0, .inl 0), (125, .iload 5, 2, 5, 0, 0, .inl 0), (127, .iastore, 1, 0, 0, 0, .inl 0), (128, .iload 5, 2, 5, 0, 0, .inl 0), (130, .istore_n 3, 1, 3, 0, 0, .inl 0), (131, .iinc 4 1, 3, 4, 0, 0, .inl (nI 1)), (134, .goto (-47), 3, 87, 0, 0, .inl 0)])
  | 137 => (155, [(137, .aload_n 0, 1, 0, 0, 0, .inl 0), (138, .aload_n 0, 1, 0, 0, 0, .inl 0), (139, .getfield 39, 3, 0, 18, 2, .inl 0), (142, .invokevirtual 277, 3, 53, 2, 0, .inl 0), (145, .aload_n 0, 1, 0, 0, 0, .inl 0), (146, .getfield 67, 3, 0, 31, 2, .inl 0), (149, .iload_n 1, 1, 1, 0, 0, .inl 0), (150, .bipush 10, 2, 0, 0, 0, .inl (nI 10)), (152, .isub, 1, 0, 0, 0, .inl 0), (153, .iaload, 1, 0, 0, 0, .inl 0), (154, .ireturn, 1, 0, 0, 0, .inl 0)])
  | n => (n, [])
theorem ck_117 : ∀ pc, px_cks pn_i117 (bk_117 pc).1 pc (bk_117 pc).2 = true := by
  intro pc
  unfold bk_117
  split <;> first | decide +kernel | simp [px_cks]
/-- NoThreeModel.takesDoor(II)Z -/
def bk_118 : Nat → Nat × List px_E := fun pc => match pc with
  | 0 => (5, [(0, .iload_n 1, 1, 1, 0, 0, .inl 0), (1, .bipush 100, 2, 0, 0, 0, .inl (nI 100)), (3, .idiv, 1, 0, 0, 0, .inl 0), (4, .istore_n 3, 1, 3, 0, 0, .inl 0)])
  | 5 => (11, [(5, .iload_n 1, 1, 1, 0, 0, .inl 0), (6, .bipush 100, 2, 0, 0, 0, .inl (nI 100)), (8, .irem, 1, 0, 0, 0, .inl 0), (9, .istore 4, 2, 4, 0, 0, .inl 0)])
  | 11 => (41, [(11, .iload_n 3, 1, 3, 0, 0, .inl 0), (12, .iload 4, 2, 4, 0, 0, .inl 0), (14, .if_icmp .ge 27, 3, 41, 0, 0, .inl 0), (17, .aload_n 0, 1, 0, 0, 0, .inl 0), (18, .iload 4, 2, 4, 0, 0, .inl 0), (20, .i2l, 1, 0, 0, 0, .inl 0), (21, .invokevirtual 214, 3, 30, 2, 0, .inl 0), (24, .ifCond .eq 17, 3, 41, 0, 0, .inl 0), (27, .aload_n 0, 1, 0, 0, 0, .inl 0), (28, .iload_n 3, 1, 3, 0, 0, .inl 0), (29, .invokevirtual 205, 3, 31, 2, 0, .inl 0), (32, .i2l, 1, 0, 0, 0, .inl 0), (33, .iload 4, 2, 4, 0, 0, .inl 0), (35, .invokestatic 151, 3, 14, 2, 0, .inl 0), (38, .ifCond .ne 5, 3, 43, 0, 0, .inl 0)])
  | 41 => (43, [(41, .iconst 0, 1, 0, 0, 0, .inl (nI 0)), (42, .ireturn, 1, 0, 0, 0, .inl 0)])
  | 43 => (61, [(43, .aload_n 0, 1, 0, 0, 0, .inl 0), (44, .iload_n 3, 1, 3, 0, 0, .inl 0), (45, .iload 4, 2, 4, 0, 0, .inl 0), (47, .invokevirtual 287, 3, 59, 3, 0, .inl 0), (50, .aload_n 0, 1, 0, 0, 0, .inl 0), (51, .iload_n 2, 1, 2, 0, 0, .inl 0), (52, .iload_n 1, 1, 1, 0, 0, .inl 0), (53, .invokevirtual 393, 3, 116, 3, 0, .inl 0), (56, .ifCond .eq 5, 3, 61, 0, 0, .inl 0), (59, .iconst 1, 1, 0, 0, 0, .inl (nI 1)), (60, .ireturn, 1, 0, 0, 0, .inl 0)])
  | 61 => (71, [(61, .aload_n 0, 1, 0, 0, 0, .inl 0), (62, .getfield 13, 3, 0, 1, 2, .inl 0), (65, .iload_n 3, 1, 3, 0, 0, .inl 0), (66, .iload 4, 2, 4, 0, 0, .inl 0), (68, .invokestatic 155, 3, 15, 3, 0, .inl 0)])
  | 71 => (73, [(71, .iconst 0, 1, 0, 0, 0, .inl (nI 0)), (72, .ireturn, 1, 0, 0, 0, .inl 0)])
  | n => (n, [])
theorem ck_118 : ∀ pc, px_cks pn_i118 (bk_118 pc).1 pc (bk_118 pc).2 = true := by
  intro pc
  unfold bk_118
  split <;> first | decide +kernel | simp [px_cks]
/-- NoThreeModel.payOf(II)I -/
def bk_119 : Nat → Nat × List px_E := fun pc => match pc with
  | 0 => (9, [(0, .aload_n 0, 1, 0, 0, 0, .inl 0), (1, .iload_n 1, 1, 1, 0, 0, .inl 0), (2, .invokevirtual 205, 3, 31, 2, 0, .inl 0), (5, .invokestatic 208, 3, 32, 1, 0, .inl 0), (8, .istore_n 3, 1, 3, 0, 0, .inl 0)])
  | 9 => (29, [(9, .bipush 10, 2, 0, 0, 0, .inl (nI 10)), (11, .iload_n 3, 1, 3, 0, 0, .inl 0), (12, .imul, 1, 0, 0, 0, .inl 0), (13, .iconst 4, 1, 0, 0, 0, .inl (nI 4)), (14, .aload_n 0, 1, 0, 0, 0, .inl 0), (15, .iload_n 1, 1, 1, 0, 0, .inl 0), (16, .invokevirtual 227, 3, 37, 2, 0, .inl 0), (19, .invokestatic 208, 3, 32, 1, 0, .inl 0), (22, .imul, 1, 0, 0, 0, .inl 0), (23, .iadd, 1, 0, 0, 0, .inl 0), (24, .iload_n 2, 1, 2, 0, 0, .inl 0), (25, .iload_n 3, 1, 3, 0, 0, .inl 0), (26, .imul, 1, 0, 0, 0, .inl 0), (27, .isub, 1, 0, 0, 0, .inl 0), (28, .ireturn, 1, 0, 0, 0, .inl 0)])
  | n => (n, [])
theorem ck_119 : ∀ pc, px_cks pn_i119 (bk_119 pc).1 pc (bk_119 pc).2 = true := by
  intro pc
  unfold bk_119
  split <;> first | decide +kernel | simp [px_cks]
/-- NoThreeModel.pay(II)I -/
def bk_120 : Nat → Nat × List px_E := fun pc => match pc with
  | 0 => (17, [(0, .aload_n 0, 1, 0, 0, 0, .inl 0), (1, .iconst 0, 1, 0, 0, 0, .inl (nI 0)), (2, .putfield 1, 3, 0, 0, 0, .inl 0), (5, .aload_n 0, 1, 0, 0, 0, .inl 0), (6, .iload_n 1, 1, 1, 0, 0, .inl 0), (7, .i2l, 1, 0, 0, 0, .inl 0), (8, .invokevirtual 214, 3, 30, 2, 0, .inl 0), (11, .ifCond .ne 6, 3, 17, 0, 0, .inl 0), (14, .bipush (-2), 2, 0, 0, 0, .inl (-2)), (16, .ireturn, 1, 0, 0, 0, .inl 0)])
  | 17 => (29, [(17, .iload_n 2, 1, 2, 0, 0, .inl 0), (18, .i2l, 1, 0, 0, 0, .inl 0), (19, .lconst 0, 1, 0, 0, 0, .inr (.inl (lN 0))), (20, .ldc2_w 409, 3, 0, 0, 0, .inr (.inl (lN 99))), (23, .invokestatic 141, 3, 2, 3, 0, .inl 0), (26, .ifCond .eq 12, 3, 38, 0, 0, .inl 0)])
  | 29 => (38, [(29, .aload_n 0, 1, 0, 0, 0, .inl 0), (30, .iload_n 1, 1, 1, 0, 0, .inl 0), (31, .iload_n 2, 1, 2, 0, 0, .inl 0), (32, .invokevirtual 411, 3, 119, 3, 0, .inl 0), (35, .goto 5, 3, 40, 0, 0, .inl 0)])
  | 38 => (40, [(38, .bipush (-3), 2, 0, 0, 0, .inl (-3))])
  | 40 => (41, [(40, .ireturn, 1, 0, 0, 0, .inl 0)])
  | n => (n, [])
theorem ck_120 : ∀ pc, px_cks pn_i120 (bk_120 pc).1 pc (bk_120 pc).2 = true := by
  intro pc
  unfold bk_120
  split <;> first | decide +kernel | simp [px_cks]
/-- NoThreeModel.wantsWall(III)Z -/
def bk_121 : Nat → Nat × List px_E := fun pc => match pc with
  | 0 => (22, [(0, .aload_n 0, 1, 0, 0, 0, .inl 0), (1, .iload_n 1, 1, 1, 0, 0, .inl 0), (2, .iload_n 3, 1, 3, 0, 0, .inl 0), (3, .invokevirtual 411, 3, 119, 3, 0, .inl 0), (6, .istore 4, 2, 4, 0, 0, .inl 0), (8, .aload_n 0, 1, 0, 0, 0, .inl 0), (9, .iload_n 2, 1, 2, 0, 0, .inl 0), (10, .iload_n 3, 1, 3, 0, 0, .inl 0), (11, .invokevirtual 411, 3, 119, 3, 0, .inl 0), (14, .istore 5, 2, 5, 0, 0, .inl 0), (16, .aload_n 0, 1, 0, 0, 0, .inl 0), (17, .iload_n 1, 1, 1, 0, 0, .inl 0), (18, .iload_n 2, 1, 2, 0, 0, .inl 0), (19, .invokevirtual 287, 3, 59, 3, 0, .inl 0)])
  | 22 => (44, [(22, .aload_n 0, 1, 0, 0, 0, .inl 0), (23, .iload_n 1, 1, 1, 0, 0, .inl 0), (24, .iload_n 3, 1, 3, 0, 0, .inl 0), (25, .invokevirtual 411, 3, 119, 3, 0, .inl 0), (28, .iload 4, 2, 4, 0, 0, .inl 0), (30, .if_icmp .gt 14, 3, 44, 0, 0, .inl 0), (33, .aload_n 0, 1, 0, 0, 0, .inl 0), (34, .iload_n 2, 1, 2, 0, 0, .inl 0), (35, .iload_n 3, 1, 3, 0, 0, .inl 0), (36, .invokevirtual 411, 3, 119, 3, 0, .inl 0), (39, .iload 5, 2, 5, 0, 0, .inl 0), (41, .if_icmp .le 7, 3, 48, 0, 0, .inl 0)])
  | 44 => (48, [(44, .iconst 1, 1, 0, 0, 0, .inl (nI 1)), (45, .goto 4, 3, 49, 0, 0, .inl 0)])
  | 48 => (49, [(48, .iconst 0, 1, 0, 0, 0, .inl (nI 0))])
  | 49 => (51, [(49, .istore 6, 2, 6, 0, 0, .inl 0)])
  | 51 => (63, [(51, .aload_n 0, 1, 0, 0, 0, .inl 0), (52, .getfield 13, 3, 0, 1, 2, .inl 0), (55, .iload_n 1, 1, 1, 0, 0, .inl 0), (56, .iload_n 2, 1, 2, 0, 0, .inl 0), (57, .invokestatic 155, 3, 15, 3, 0, .inl 0), (60, .iload 6, 2, 6, 0, 0, .inl 0), (62, .ireturn, 1, 0, 0, 0, .inl 0)])
  | n => (n, [])
theorem ck_121 : ∀ pc, px_cks pn_i121 (bk_121 pc).1 pc (bk_121 pc).2 = true := by
  intro pc
  unfold bk_121
  split <;> first | decide +kernel | simp [px_cks]
/-- NoThreeModel.wantJoin(III)Z -/
def bk_122 : Nat → Nat × List px_E := fun pc => match pc with
  | 0 => (13, [(0, .aload_n 0, 1, 0, 0, 0, .inl 0), (1, .iload_n 1, 1, 1, 0, 0, .inl 0), (2, .i2l, 1, 0, 0, 0, .inl 0), (3, .iload_n 2, 1, 2, 0, 0, .inl 0), (4, .i2l, 1, 0, 0, 0, .inl 0), (5, .invokevirtual 280, 3, 57, 3, 0, .inl 0), (8, .ifCond .eq 5, 3, 13, 0, 0, .inl 0), (11, .iconst 0, 1, 0, 0, 0, .inl (nI 0)), (12, .ireturn, 1, 0, 0, 0, .inl 0)])
  | 13 => (29, [(13, .aload_n 0, 1, 0, 0, 0, .inl 0), (14, .iload_n 1, 1, 1, 0, 0, .inl 0), (15, .iload_n 3, 1, 3, 0, 0, .inl 0), (16, .invokevirtual 411, 3, 119, 3, 0, .inl 0), (19, .istore 4, 2, 4, 0, 0, .inl 0), (21, .aload_n 0, 1, 0, 0, 0, .inl 0), (22, .iload_n 2, 1, 2, 0, 0, .inl 0), (23, .iload_n 3, 1, 3, 0, 0, .inl 0), (24, .invokevirtual 411, 3, 119, 3, 0, .inl 0), (27, .istore 5, 2, 5, 0, 0, .inl 0)])
  | 29 => (54, [(29, .aload_n 0, 1, 0, 0, 0, .inl 0), (30, .getfield 13, 3, 0, 1, 2, .inl 0), (33, .iload_n 1, 1, 1, 0, 0, .inl 0), (34, .iload_n 2, 1, 2, 0, 0, .inl 0), (35, .invokestatic 155, 3, 15, 3, 0, .inl 0), (38, .aload_n 0, 1, 0, 0, 0, .inl 0), (39, .iload_n 1, 1, 1, 0, 0, .inl 0), (40, .iload_n 3, 1, 3, 0, 0, .inl 0), (41, .invokevirtual 411, 3, 119, 3, 0, .inl 0), (44, .istore 6, 2, 6, 0, 0, .inl 0), (46, .aload_n 0, 1, 0, 0, 0, .inl 0), (47, .iload_n 2, 1, 2, 0, 0, .inl 0), (48, .iload_n 3, 1, 3, 0, 0, .inl 0), (49, .invokevirtual 411, 3, 119, 3, 0, .inl 0), (52, .istore 7, 2, 7, 0, 0, .inl 0)])
  | 54 => (88, [(54, .aload_n 0, 1, 0, 0, 0, .inl 0), (55, .iload_n 1, 1, 1, 0, 0, .inl 0), (56, .iload_n 2, 1, 2, 0, 0, .inl 0), (57, .invokevirtual 287, 3, 59, 3, 0, .inl 0), (60, .iload 6, 2, 6, 0, 0, .inl 0), (62, .iload 4, 2, 4, 0, 0, .inl 0), (64, .if_icmp .lt 28, 3, 92, 0, 0, .inl 0), (67, .iload 7, 2, 7, 0, 0, .inl 0), (69, .iload 5, 2, 5, 0, 0, .inl 0), (71, .if_icmp .lt 21, 3, 92, 0, 0, .inl 0), (74, .iload 6, 2, 6, 0, 0, .inl 0), (76, .iload 4, 2, 4, 0, 0, .inl 0), (78, .if_icmp .gt 10, 3, 88, 0, 0, .inl 0), (81, .iload 7, 2, 7, 0, 0, .inl 0), (83, .iload 5, 2, 5, 0, 0, .inl 0), (85, .if_icmp .le 7, 3, 92, 0, 0, .inl 0)])
  | 88 => (92, [(88, .iconst 1, 1, 0, 0, 0, .inl (nI 1)), (89, .goto 4, 3, 93, 0, 0, .inl 0)])
  | 92 => (93, [(92, .iconst 0, 1, 0, 0, 0, .inl (nI 0))])
  | 93 => (94, [(93, .ireturn, 1, 0, 0, 0, .inl 0)])
  | n => (n, [])
theorem ck_122 : ∀ pc, px_cks pn_i122 (bk_122 pc).1 pc (bk_122 pc).2 = true := by
  intro pc
  unfold bk_122
  split <;> first | decide +kernel | simp [px_cks]
/-- NoThreeModel.changes(IZ)Z -/
def bk_123 : Nat → Nat × List px_E := fun pc => match pc with
  | 0 => (2, [(0, .iconst 0, 1, 0, 0, 0, .inl (nI 0)), (1, .istore_n 3, 1, 3, 0, 0, .inl 0)])
  | 2 => (17, [(2, .iload_n 3, 1, 3, 0, 0, .inl 0), (3, .aload_n 0, 1, 0, 0, 0, .inl 0), (4, .getfield 13, 3, 0, 1, 2, .inl 0), (7, .iconst 1, 1, 0, 0, 0, .inl (nI 1)), (8, .iaload, 1, 0, 0, 0, .inl 0), (9, .if_icmp .ge 72, 3, 81, 0, 0, .inl 0), (12, .iload_n 3, 1, 3, 0, 0, .inl 0), (13, .iconst 1, 1, 0, 0, 0, .inl (nI 1)), (14, .iadd, 1, 0, 0, 0, .inl 0), (15, .istore 4, 2, 4, 0, 0, .inl 0)])
  | 17 => (42, [(17, .iload 4, 2, 4, 0, 0, .inl 0), (19, .aload_n 0, 1, 0, 0, 0, .inl 0), (20, .getfield 13, 3, 0, 1, 2, .inl 0), (23, .iconst 1, 1, 0, 0, 0, .inl (nI 1)), (24, .iaload, 1, 0, 0, 0, .inl 0), (25, .if_icmp .ge 50, 3, 75, 0, 0, .inl 0), (28, .aload_n 0, 1, 0, 0, 0, .inl 0), (29, .iload_n 3, 1, 3, 0, 0, .inl 0), (30, .invokevirtual 205, 3, 31, 2, 0, .inl 0), (33, .i2l, 1, 0, 0, 0, .inl 0), (34, .iload 4, 2, 4, 0, 0, .inl 0), (36, .invokestatic 151, 3, 14, 2, 0, .inl 0), (39, .ifCond .eq 30, 3, 69, 0, 0, .inl 0)])
  | 42 => (56, [(42, .aload_n 0, 1, 0, 0, 0, .inl 0), (43, .iload_n 3, 1, 3, 0, 0, .inl 0), (44, .iload 4, 2, 4, 0, 0, .inl 0), (46, .iload_n 1, 1, 1, 0, 0, .inl 0), (47, .invokevirtual 414, 3, 121, 4, 0, .inl 0), (50, .ifCond .ne 6, 3, 56, 0, 0, .inl 0), (53, .goto 16, 3, 69, 0, 0, .inl 0)])
  | 56 => (67, [(56, .iload_n 2, 1, 2, 0, 0, .inl 0), (57, .ifCond .eq 10, 3, 67, 0, 0, .inl 0), (60, .aload_n 0, 1, 0, 0, 0, .inl 0), (61, .iload_n 3, 1, 3, 0, 0, .inl 0), (62, .iload 4, 2, 4, 0, 0, .inl 0), (64, .invokevirtual 287, 3, 59, 3, 0, .inl 0)])
  | 67 => (69, [(67, .iconst 1, 1, 0, 0, 0, .inl (nI 1)), (68, .ireturn, 1, 0, 0, 0, .inl 0)])
  | 69 => (75, [(69, .iinc 4 1, 3, 4, 0, 0, .inl (nI 1)), (72, .goto (-55), 3, 17, 0, 0, .inl 0)])
  | 75 => (81, [(75, .iinc 3 1, 3, 3, 0, 0, .inl (nI 1)), (78, .goto (-76), 3, 2, 0, 0, .inl 0)])
  | 81 => (83, [(81, .iconst 0, 1, 0, 0, 0, .inl (nI 0)), (82, .istore_n 3, 1, 3, 0, 0, .inl 0)])
  | 83 => (98, [(83, .iload_n 3, 1, 3, 0, 0, .inl 0), (84, .aload_n 0, 1, 0, 0, 0, .inl 0), (85, .getfield 13, 3, 0, 1, 2, .inl 0), (88, .iconst 1, 1, 0, 0, 0, .inl (nI 1)), (89, .iaload, 1, 0, 0, 0, .inl 0), (90, .if_icmp .ge 75, 3, 165, 0, 0, .inl 0), (93, .iload_n 3, 1, 3, 0, 0, .inl 0), (94, .iconst 1, 1, 0, 0, 0, .inl (nI 1)), (95, .iadd, 1, 0, 0, 0, .inl 0), (96, .istore 4, 2, 4, 0, 0, .inl 0)])
  | 98 => (123, [(98, .iload 4, 2, 4, 0, 0, .inl 0), (100, .aload_n 0, 1, 0, 0, 0, .inl 0), (101, .getfield 13, 3, 0, 1, 2, .inl 0), (104, .iconst 1, 1, 0, 0, 0, .inl (nI 1)), (105, .iaload, 1, 0, 0, 0, .inl 0), (106, .if_icmp .ge 53, 3, 159, 0, 0, .inl 0), (109, .aload_n 0, 1, 0, 0, 0, .inl 0), (110, .iload_n 3, 1, 3, 0, 0, .inl 0), (111, .invokevirtual 205, 3, 31, 2, 0, .inl 0), (114, .i2l, 1, 0, 0, 0, .inl 0), (115, .iload 4, 2, 4, 0, 0, .inl 0), (117, .invokestatic 151, 3, 14, 2, 0, .inl 0), (120, .ifCond .ne 33, 3, 153, 0, 0, .inl 0)])
  | 123 => (137, [(123, .aload_n 0, 1, 0, 0, 0, .inl 0), (124, .iload_n 3, 1, 3, 0, 0, .inl 0), (125, .iload 4, 2, 4, 0, 0, .inl 0), (127, .iload_n 1, 1, 1, 0, 0, .inl 0), (128, .invokevirtual 417, 3, 122, 4, 0, .inl 0), (131, .ifCond .ne 6, 3, 137, 0, 0, .inl 0), (134, .goto 19, 3, 153, 0, 0, .inl 0)])
  | 137 => (151, [(137, .iload_n 2, 1, 2, 0, 0, .inl 0), (138, .ifCond .eq 13, 3, 151, 0, 0, .inl 0), (141, .aload_n 0, 1, 0, 0, 0, .inl 0), (142, .getfield 13, 3, 0, 1, 2, .inl 0), (145, .iload_n 3, 1, 3, 0, 0, .inl 0), (146, .iload 4, 2, 4, 0, 0, .inl 0), (148, .invokestatic 155, 3, 15, 3, 0, .inl 0)])
  | 151 => (153, [(151, .iconst 1, 1, 0, 0, 0, .inl (nI 1)), (152, .ireturn, 1, 0, 0, 0, .inl 0)])
  | 153 => (159, [(153, .iinc 4 1, 3, 4, 0, 0, .inl (nI 1)), (156, .goto (-58), 3, 98, 0, 0, .inl 0)])
  | 159 => (165, [(159, .iinc 3 1, 3, 3, 0, 0, .inl (nI 1)), (162, .goto (-79), 3, 83, 0, 0, .inl 0)])
  | 165 => (167, [(165, .iconst 0, 1, 0, 0, 0, .inl (nI 0)), (166, .ireturn, 1, 0, 0, 0, .inl 0)])
  | n => (n, [])
theorem ck_123 : ∀ pc, px_cks pn_i123 (bk_123 pc).1 pc (bk_123 pc).2 = true := by
  intro pc
  unfold bk_123
  split <;> first | decide +kernel | simp [px_cks]
/-- NoThreeModel.atRest(I)I -/
def bk_124 : Nat → Nat × List px_E := fun pc => match pc with
  | 0 => (22, [(0, .aload_n 0, 1, 0, 0, 0, .inl 0), (1, .iconst 0, 1, 0, 0, 0, .inl (nI 0)), (2, .putfield 1, 3, 0, 0, 0, .inl 0), (5, .iload_n 1, 1, 1, 0, 0, .inl 0), (6, .i2l, 1, 0, 0, 0, .inl 0), (7, .lconst 0, 1, 0, 0, 0, .inr (.inl (lN 0))), (8, .ldc2_w 409, 3, 0, 0, 0, .inr (.inl (lN 99))), (11, .invokestatic 141, 3, 2, 3, 0, .inl 0), (14, .ifCond .ne 8, 3, 22, 0, 0, .inl 0), (17, .bipush (-3), 2, 0, 0, 0, .inl (-3)), (19, .goto 17, 3, 36, 0, 0, .inl 0)])
  | 22 => (35, [(22, .aload_n 0, 1, 0, 0, 0, .inl 0), (23, .iload_n 1, 1, 1, 0, 0, .inl 0), (24, .iconst 0, 1, 0, 0, 0, .inl (nI 0)), (25, .invokevirtual 420, 3, 123, 3, 0, .inl 0), (28, .ifCond .eq 7, 3, 35, 0, 0, .inl 0), (31, .iconst 0, 1, 0, 0, 0, .inl (nI 0)), (32, .goto 4, 3, 36, 0, 0, .inl 0)])
  | 35 => (36, [(35, .iconst 1, 1, 0, 0, 0, .inl (nI 1))])
  | 36 => (37, [(36, .ireturn, 1, 0, 0, 0, .inl 0)])
  | n => (n, [])
theorem ck_124 : ∀ pc, px_cks pn_i124 (bk_124 pc).1 pc (bk_124 pc).2 = true := by
  intro pc
  unfold bk_124
  split <;> first | decide +kernel | simp [px_cks]
/-- NoThreeModel.changing(II)I -/
def bk_125 : Nat → Nat × List px_E := fun pc => match pc with
  | 0 => (20, [(0, .aload_n 0, 1, 0, 0, 0, .inl 0), (1, .iconst 0, 1, 0, 0, 0, .inl (nI 0)), (2, .putfield 1, 3, 0, 0, 0, .inl 0), (5, .iload_n 2, 1, 2, 0, 0, .inl 0), (6, .i2l, 1, 0, 0, 0, .inl 0), (7, .lconst 0, 1, 0, 0, 0, .inr (.inl (lN 0))), (8, .ldc2_w 424, 3, 0, 0, 0, .inr (.inl (lN 2))), (11, .invokestatic 141, 3, 2, 3, 0, .inl 0), (14, .ifCond .ne 6, 3, 20, 0, 0, .inl 0), (17, .bipush (-2), 2, 0, 0, 0, .inl (-2)), (19, .ireturn, 1, 0, 0, 0, .inl 0)])
  | 20 => (32, [(20, .iload_n 1, 1, 1, 0, 0, .inl 0), (21, .i2l, 1, 0, 0, 0, .inl 0), (22, .lconst 0, 1, 0, 0, 0, .inr (.inl (lN 0))), (23, .ldc2_w 409, 3, 0, 0, 0, .inr (.inl (lN 99))), (26, .invokestatic 141, 3, 2, 3, 0, .inl 0), (29, .ifCond .ne 6, 3, 35, 0, 0, .inl 0)])
  | 32 => (35, [(32, .bipush (-3), 2, 0, 0, 0, .inl (-3)), (34, .ireturn, 1, 0, 0, 0, .inl 0)])
  | 35 => (45, [(35, .aload_n 0, 1, 0, 0, 0, .inl 0), (36, .aload_n 0, 1, 0, 0, 0, .inl 0), (37, .getfield 39, 3, 0, 18, 2, .inl 0), (40, .invokevirtual 270, 3, 52, 2, 0, .inl 0), (43, .iconst 0, 1, 0, 0, 0, .inl (nI 0)), (44, .istore_n 3, 1, 3, 0, 0, .inl 0)])
  | 45 => (66, [(45, .iload_n 3, 1, 3, 0, 0, .inl 0), (46, .bipush 60, 2, 0, 0, 0, .inl (nI 60)), (48, .if_icmp .ge 18, 3, 66, 0, 0, .inl 0), (51, .aload_n 0, 1, 0, 0, 0, .inl 0), (52, .iload_n 1, 1, 1, 0, 0, .inl 0), (53, .iconst 1, 1, 0, 0, 0, .inl (nI 1)), (54, .invokevirtual 420, 3, 123, 3, 0, .inl 0), (57, .ifCond .eq 9, 3, 66, 0, 0, .inl 0), (60, .iinc 3 1, 3, 3, 0, 0, .inl (nI 1)), (63, .goto (-18), 3, 45, 0, 0, .inl 0)])
  | 66 => (85, [(66, .aload_n 0, 1, 0, 0, 0, .inl 0), (67, .invokevirtual 237, 3, 45, 1, 0, .inl 0), (70, .istore 4, 2, 4, 0, 0, .inl 0), (72, .aload_n 0, 1, 0, 0, 0, .inl 0), (73, .iload_n 1, 1, 1, 0, 0, .inl 0), (74, .iconst 0, 1, 0, 0, 0, .inl (nI 0)), (75, .invokevirtual 420, 3, 123, 3, 0, .inl 0), (78, .ifCond .eq 7, 3, 85, 0, 0, .inl 0), (81, .iconst 0, 1, 0, 0, 0, .inl (nI 0)), (82, .goto 4, 3, 86, 0, 0, .inl 0)])
  | 85 => (86, [(85, .iconst 1, 1, 0, 0, 0, .inl (nI 1))])
  | 86 => (88, [(86, .istore 5, 2, 5, 0, 0, .inl 0)])
  | 88 => (104, [(88, .aload_n 0, 1, 0, 0, 0, .inl 0), (89, .aload_n 0, 1, 0, 0, 0, .inl 0), (90, .getfield 39, 3, 0, 18, 2, .inl 0), (93, .invokevirtual 277, 3, 53, 2, 0, .inl 0), (96, .iload_n 2, 1, 2, 0, 0, .inl 0), (97, .ifCond .ne 7, 3, 104, 0, 0, .inl 0), (100, .iload_n 3, 1, 3, 0, 0, .inl 0), (101, .goto 15, 3, 116, 0, 0, .inl 0)])
  | 104 => (114, [(104, .iload_n 2, 1, 2, 0, 0, .inl 0), (105, .iconst 1, 1, 0, 0, 0, .inl (nI 1)), (106, .if_icmp .ne 8, 3, 114, 0, 0, .inl 0), (109, .iload 4, 2, 4, 0, 0, .inl 0), (111, .goto 5, 3, 116, 0, 0, .inl 0)])
  | 114 => (116, [(114, .iload 5, 2, 5, 0, 0, .inl 0)])
  | 116 => (117, [(116, .ireturn, 1, 0, 0, 0, .inl 0)])
  | n => (n, [])
theorem ck_125 : ∀ pc, px_cks pn_i125 (bk_125 pc).1 pc (bk_125 pc).2 = true := by
  intro pc
  unfold bk_125
  split <;> first | decide +kernel | simp [px_cks]
/-- NoThreeModel.dearness()I -/
def bk_126 : Nat → Nat × List px_E := fun pc => match pc with
  | 0 => (7, [(0, .aload_n 0, 1, 0, 0, 0, .inl 0), (1, .iconst 0, 1, 0, 0, 0, .inl (nI 0)), (2, .putfield 1, 3, 0, 0, 0, .inl 0), (5, .iconst 0, 1, 0, 0, 0, .inl (nI 0)), (6, .istore_n 1, 1, 1, 0, 0, .inl 0)])
  | 7 => (24, [(7, .iload_n 1, 1, 1, 0, 0, .inl 0), (8, .bipush 100, 2, 0, 0, 0, .inl (nI 100)), (10, .if_icmp .ge 20, 3, 30, 0, 0, .inl 0), (13, .aload_n 0, 1, 0, 0, 0, .inl 0), (14, .iload_n 1, 1, 1, 0, 0, .inl 0), (15, .iconst 0, 1, 0, 0, 0, .inl (nI 0)), (16, .invokevirtual 420, 3, 123, 3, 0, .inl 0), (19, .ifCond .ne 5, 3, 24, 0, 0, .inl 0), (22, .iload_n 1, 1, 1, 0, 0, .inl 0), (23, .ireturn, 1, 0, 0, 0, .inl 0)])
  | 24 => (30, [(24, .iinc 1 1, 3, 1, 0, 0, .inl (nI 1)), (27, .goto (-20), 3, 7, 0, 0, .inl 0)])
  | 30 => (32, [(30, .iconst (-1), 1, 0, 0, 0, .inl (-1)), (31, .ireturn, 1, 0, 0, 0, .inl 0)])
  | n => (n, [])
theorem ck_126 : ∀ pc, px_cks pn_i126 (bk_126 pc).1 pc (bk_126 pc).2 = true := by
  intro pc
  unfold bk_126
  split <;> first | decide +kernel | simp [px_cks]
/-- NoThreeModel.cut(JI)J -/
def bk_127 : Nat → Nat × List px_E := fun pc => match pc with
  | 0 => (11, [(0, .iload_n 2, 1, 2, 0, 0, .inl 0), (1, .ifCond .ne 10, 3, 11, 0, 0, .inl 0), (4, .lload_n 0, 1, 0, 0, 0, .inl 0), (5, .l2i, 1, 0, 0, 0, .inl 0), (6, .i2b, 1, 0, 0, 0, .inl 0), (7, .i2l, 1, 0, 0, 0, .inl 0), (8, .goto 27, 3, 35, 0, 0, .inl 0)])
  | 11 => (23, [(11, .iload_n 2, 1, 2, 0, 0, .inl 0), (12, .iconst 1, 1, 0, 0, 0, .inl (nI 1)), (13, .if_icmp .ne 10, 3, 23, 0, 0, .inl 0), (16, .lload_n 0, 1, 0, 0, 0, .inl 0), (17, .l2i, 1, 0, 0, 0, .inl 0), (18, .i2s, 1, 0, 0, 0, .inl 0), (19, .i2l, 1, 0, 0, 0, .inl 0), (20, .goto 15, 3, 35, 0, 0, .inl 0)])
  | 23 => (34, [(23, .iload_n 2, 1, 2, 0, 0, .inl 0), (24, .iconst 2, 1, 0, 0, 0, .inl (nI 2)), (25, .if_icmp .ne 9, 3, 34, 0, 0, .inl 0), (28, .lload_n 0, 1, 0, 0, 0, .inl 0), (29, .l2i, 1, 0, 0, 0, .inl 0), (30, .i2l, 1, 0, 0, 0, .inl 0), (31, .goto 4, 3, 35, 0, 0, .inl 0)])
  | 34 => (35, [(34, .lload_n 0, 1, 0, 0, 0, .inl 0)])
  | 35 => (36, [(35, .lreturn, 1, 0, 0, 0, .inl 0)])
  | n => (n, [])
theorem ck_127 : ∀ pc, px_cks pn_i127 (bk_127 pc).1 pc (bk_127 pc).2 = true := by
  intro pc
  unfold bk_127
  split <;> first | decide +kernel | simp [px_cks]
/-- NoThreeModel.numbers(III)I -/
def bk_128 : Nat → Nat × List px_E := fun pc => match pc with
  | 0 => (29, [(0, .aload_n 0, 1, 0, 0, 0, .inl 0), (1, .iconst 0, 1, 0, 0, 0, .inl (nI 0)), (2, .putfield 1, 3, 0, 0, 0, .inl 0), (5, .iload_n 1, 1, 1, 0, 0, .inl 0), (6, .i2l, 1, 0, 0, 0, .inl 0), (7, .lconst 0, 1, 0, 0, 0, .inr (.inl (lN 0))), (8, .ldc2_w 311, 3, 0, 0, 0, .inr (.inl (lN 3))), (11, .invokestatic 141, 3, 2, 3, 0, .inl 0), (14, .ifCond .eq 15, 3, 29, 0, 0, .inl 0), (17, .iload_n 2, 1, 2, 0, 0, .inl 0), (18, .i2l, 1, 0, 0, 0, .inl 0), (19, .lconst 0, 1, 0, 0, 0, .inr (.inl (lN 0))), (20, .ldc2_w 311, 3, 0, 0, 0, .inr (.inl (lN 3))), (23, .invokestatic 141, 3, 2, 3, 0, .inl 0), (26, .ifCond .ne 6, 3, 32, 0, 0, .inl 0)])
  | 29 => (32, [(29, .bipush (-2), 2, 0, 0, 0, .inl (-2)), (31, .ireturn, 1, 0, 0, 0, .inl 0)])
  | 32 => (47, [(32, .iload_n 3, 1, 3, 0, 0, .inl 0), (33, .i2l, 1, 0, 0, 0, .inl 0), (34, .lconst 0, 1, 0, 0, 0, .inr (.inl (lN 0))), (35, .ldc2_w 426, 3, 0, 0, 0, .inr (.inl (lN 40))), (38, .invokestatic 141, 3, 2, 3, 0, .inl 0), (41, .ifCond .ne 6, 3, 47, 0, 0, .inl 0), (44, .bipush (-3), 2, 0, 0, 0, .inl (-3)), (46, .ireturn, 1, 0, 0, 0, .inl 0)])
  | 47 => (64, [(47, .aload_n 0, 1, 0, 0, 0, .inl 0), (48, .getfield 70, 3, 0, 35, 2, .inl 0), (51, .iload_n 1, 1, 1, 0, 0, .inl 0), (52, .iload_n 2, 1, 2, 0, 0, .inl 0), (53, .iastore, 1, 0, 0, 0, .inl 0), (54, .aload_n 0, 1, 0, 0, 0, .inl 0), (55, .getfield 73, 3, 0, 36, 2, .inl 0), (58, .iload_n 1, 1, 1, 0, 0, .inl 0), (59, .iload_n 3, 1, 3, 0, 0, .inl 0), (60, .iastore, 1, 0, 0, 0, .inl 0), (61, .iconst 0, 1, 0, 0, 0, .inl (nI 0)), (62, .istore 4, 2, 4, 0, 0, .inl 0)])
  | 64 => (89, [(64, .iload 4, 2, 4, 0, 0, .inl 0), (66, .iload_n 3, 1, 3, 0, 0, .inl 0), (67, .if_icmp .ge 22, 3, 89, 0, 0, .inl 0), (70, .aload_n 0, 1, 0, 0, 0, .inl 0), (71, .getfield 76, 3, 0, 37, 2, .inl 0), (74, .bipush 40, 2, 0, 0, 0, .inl (nI 40)), (76, .iload_n 1, 1, 1, 0, 0, .inl 0), (77, .imul, 1, 0, 0, 0, .inl 0), (78, .iload 4, 2, 4, 0, 0, .inl 0), (80, .iadd, 1, 0, 0, 0, .inl 0), (81, .lconst 0, 1, 0, 0, 0, .inr (.inl (lN 0))), (82, .lastore, 1, 0, 0, 0, .inl 0), (83, .iinc 4 1, 3, 4, 0, 0, .inl (nI 1)), (86, .goto (-22), 3, 64, 0, 0, .inl 0)])
  | 89 => (91, [(89, .iconst 0, 1, 0, 0, 0, .inl (nI 0)), (90, .ireturn, 1, 0, 0, 0, .inl 0)])
  | n => (n, [])
theorem ck_128 : ∀ pc, px_cks pn_i128 (bk_128 pc).1 pc (bk_128 pc).2 = true := by
  intro pc
  unfold bk_128
  split <;> first | decide +kernel | simp [px_cks]
/-- NoThreeModel.write(IIJ)J -/
def bk_129 : Nat → Nat × List px_E := fun pc => match pc with
  | 0 => (21, [(0, .aload_n 0, 1, 0, 0, 0, .inl 0), (1, .iconst 0, 1, 0, 0, 0, .inl (nI 0)), (2, .putfield 1, 3, 0, 0, 0, .inl 0), (5, .iload_n 1, 1, 1, 0, 0, .inl 0), (6, .i2l, 1, 0, 0, 0, .inl 0), (7, .lconst 0, 1, 0, 0, 0, .inr (.inl (lN 0))), (8, .ldc2_w 311, 3, 0, 0, 0, .inr (.inl (lN 3))), (11, .invokestatic 141, 3, 2, 3, 0, .inl 0), (14, .ifCond .ne 7, 3, 21, 0, 0, .inl 0), (17, .ldc2_w 428, 3, 0, 0, 0, .inr (.inl (-2))), (20, .lreturn, 1, 0, 0, 0, .inl 0)])
  | 21 => (31, [(21, .aload_n 0, 1, 0, 0, 0, .inl 0), (22, .getfield 70, 3, 0, 35, 2, .inl 0), (25, .iload_n 1, 1, 1, 0, 0, .inl 0), (26, .iaload, 1, 0, 0, 0, .inl 0), (27, .iconst (-1), 1, 0, 0, 0, .inl (-1)), (28, .if_icmp .ne 7, 3, 35, 0, 0, .inl 0)])
  | 31 => (35, [(31, .ldc2_w 430, 3, 0, 0, 0, .inr (.inl (-6))), (34, .lreturn, 1, 0, 0, 0, .inl 0)])
  | 35 => (53, [(35, .iload_n 2, 1, 2, 0, 0, .inl 0), (36, .i2l, 1, 0, 0, 0, .inl 0), (37, .lconst 0, 1, 0, 0, 0, .inr (.inl (lN 0))), (38, .aload_n 0, 1, 0, 0, 0, .inl 0), (39, .getfield 73, 3, 0, 36, 2, .inl 0), (42, .iload_n 1, 1, 1, 0, 0, .inl 0), (43, .iaload, 1, 0, 0, 0, .inl 0), (44, .iconst 1, 1, 0, 0, 0, .inl (nI 1)), (45, .isub, 1, 0, 0, 0, .inl 0), (46, .i2l, 1, 0, 0, 0, .inl 0), (47, .invokestatic 141, 3, 2, 3, 0, .inl 0), (50, .ifCond .ne 7, 3, 57, 0, 0, .inl 0)])
  | 53 => (57, [(53, .ldc2_w 432, 3, 0, 0, 0, .inr (.inl (-7))), (56, .lreturn, 1, 0, 0, 0, .inl 0)])
  | 57 => (78, [(57, .aload_n 0, 1, 0, 0, 0, .inl 0), (58, .getfield 76, 3, 0, 37, 2, .inl 0), (61, .bipush 40, 2, 0, 0, 0, .inl (nI 40)), (63, .iload_n 1, 1, 1, 0, 0, .inl 0), (64, .imul, 1, 0, 0, 0, .inl 0), (65, .iload_n 2, 1, 2, 0, 0, .inl 0), (66, .iadd, 1, 0, 0, 0, .inl 0), (67, .lload_n 3, 1, 3, 0, 0, .inl 0), (68, .aload_n 0, 1, 0, 0, 0, .inl 0), (69, .getfield 70, 3, 0, 35, 2, .inl 0), (72, .iload_n 1, 1, 1, 0, 0, .inl 0), (73, .iaload, 1, 0, 0, 0, .inl 0), (74, .invokestatic 434, 3, 127, 2, 0, .inl 0), (77, .lastore, 1, 0, 0, 0, .inl 0)])
  | 78 => (90, [(78, .aload_n 0, 1, 0, 0, 0, .inl 0), (79, .getfield 76, 3, 0, 37, 2, .inl 0), (82, .bipush 40, 2, 0, 0, 0, .inl (nI 40)), (84, .iload_n 1, 1, 1, 0, 0, .inl 0), (85, .imul, 1, 0, 0, 0, .inl 0), (86, .iload_n 2, 1, 2, 0, 0, .inl 0), (87, .iadd, 1, 0, 0, 0, .inl 0), (88, .laload, 1, 0, 0, 0, .inl 0), (89, .lreturn, 1, 0, 0, 0, .inl 0)])
  | n => (n, [])
theorem ck_129 : ∀ pc, px_cks pn_i129 (bk_129 pc).1 pc (bk_129 pc).2 = true := by
  intro pc
  unfold bk_129
  split <;> first | decide +kernel | simp [px_cks]
/-- NoThreeModel.copy(I)I -/
def bk_130 : Nat → Nat × List px_E := fun pc => match pc with
  | 0 => (20, [(0, .aload_n 0, 1, 0, 0, 0, .inl 0), (1, .iconst 0, 1, 0, 0, 0, .inl (nI 0)), (2, .putfield 1, 3, 0, 0, 0, .inl 0), (5, .iload_n 1, 1, 1, 0, 0, .inl 0), (6, .i2l, 1, 0, 0, 0, .inl 0), (7, .lconst 0, 1, 0, 0, 0, .inr (.inl (lN 0))), (8, .ldc2_w 311, 3, 0, 0, 0, .inr (.inl (lN 3))), (11, .invokestatic 141, 3, 2, 3, 0, .inl 0), (14, .ifCond .ne 6, 3, 20, 0, 0, .inl 0), (17, .bipush (-2), 2, 0, 0, 0, .inl (-2)), (19, .ireturn, 1, 0, 0, 0, .inl 0)])
  | 20 => (33, [(20, .aload_n 0, 1, 0, 0, 0, .inl 0), (21, .getfield 70, 3, 0, 35, 2, .inl 0), (24, .iload_n 1, 1, 1, 0, 0, .inl 0), (25, .iaload, 1, 0, 0, 0, .inl 0), (26, .iconst (-1), 1, 0, 0, 0, .inl (-1)), (27, .if_icmp .ne 6, 3, 33, 0, 0, .inl 0), (30, .bipush (-6), 2, 0, 0, 0, .inl (-6)), (32, .ireturn, 1, 0, 0, 0, .inl 0)])
  | 33 => (37, [(33, .iconst 0, 1, 0, 0, 0, .inl (nI 0)), (34, .istore_n 2, 1, 2, 0, 0, .inl 0), (35, .iconst 0, 1, 0, 0, 0, .inl (nI 0)), (36, .istore_n 3, 1, 3, 0, 0, .inl 0)])
  | 37 => (52, [(37, .iload_n 3, 1, 3, 0, 0, .inl 0), (38, .aload_n 0, 1, 0, 0, 0, .inl 0), (39, .getfield 13, 3, 0, 1, 2, .inl 0), (42, .iconst 1, 1, 0, 0, 0, .inl (nI 1)), (43, .iaload, 1, 0, 0, 0, .inl 0), (44, .if_icmp .ge 89, 3, 133, 0, 0, .inl 0), (47, .iload_n 3, 1, 3, 0, 0, .inl 0), (48, .iconst 1, 1, 0, 0, 0, .inl (nI 1)), (49, .iadd, 1, 0, 0, 0, .inl 0), (50, .istore 4, 2, 4, 0, 0, .inl 0)])
  | 52 => (90, [(52, .iload 4, 2, 4, 0, 0, .inl 0), (54, .aload_n 0, 1, 0, 0, 0, .inl 0), (55, .getfield 13, 3, 0, 1, 2, .inl 0), (58, .iconst 1, 1, 0, 0, 0, .inl (nI 1)), (59, .iaload, 1, 0, 0, 0, .inl 0), (60, .if_icmp .ge 67, 3, 127, 0, 0, .inl 0), (63, .iload_n 2, 1, 2, 0, 0, .inl 0), (64, .aload_n 0, 1, 0, 0, 0, .inl 0), (65, .getfield 73, 3, 0, 36, 2, .inl 0), (68, .iload_n 1, 1, 1, 0, 0, .inl 0), (69, .iaload, 1, 0, 0, 0, .inl 0), (70, .if_icmp .ge 57, 3, 127, 0, 0, .inl 0), (73, .aload_n 0, 1, 0, 0, 0, .inl 0), (74, .iload_n 3, 1, 3, 0, 0, .inl 0), (75, .invokevirtual 205, 3, 31, 2, 0, .inl 0), (78, .i2l, 1, 0, 0, 0, .inl 0), (79, .iload 4, 2, 4, 0, 0, .inl 0), (81, .invokestatic 151, 3, 14, 2, 0, .inl 0), (84, .ifCond .ne 6, 3, 90, 0, 0, .inl 0), (87, .goto 34, 3, 121, 0, 0, .inl 0)])
  | 90 => (118, [(90, .aload_n 0, 1, 0, 0, 0, .inl 0), (91, .getfield 76, 3, 0, 37, 2, .inl 0), (94, .bipush 40, 2, 0, 0, 0, .inl (nI 40)), (96, .iload_n 1, 1, 1, 0, 0, .inl 0), (97, .imul, 1, 0, 0, 0, .inl 0), (98, .iload_n 2, 1, 2, 0, 0, .inl 0), (99, .iadd, 1, 0, 0, 0, .inl 0), (100, .bipush 100, 2, 0, 0, 0, .inl (nI 100)), (102, .iload_n 3, 1, 3, 0, 0, .inl 0), (103, .imul, 1, 0, 0, 0, .inl 0), (104, .iload 4, 2, 4, 0, 0, .inl 0), (106, .iadd, 1, 0, 0, 0, .inl 0), (107, .i2l, 1, 0, 0, 0, .inl 0), (108, .aload_n 0, 1, 0, 0, 0, .inl 0), (109, .getfield 70, 3, 0, 35, 2, .inl 0), (112, .iload_n 1, 1, 1, 0, 0, .inl 0), (113, .iaload, 1, 0, 0, 0, .inl 0), (114, .invokestatic 434, 3, 127, 2, 0, .inl 0), (117, .lastore, 1, 0, 0, 0, .inl 0)])
  | 118 => (121, [(118, .iinc 2 1, 3, 2, 0, 0, .inl (nI 1))])
  | 121 => (127, [(121, .iinc 4 1, 3, 4, 0, 0, .inl (nI 1)), (124, .goto (-72), 3, 52, 0, 0, .inl 0)])
  | 127 => (133, [(127, .iinc 3 1, 3, 3, 0, 0, .inl (nI 1)), (130, .goto (-93), 3, 37, 0, 0, .inl 0)])
  | 133 => (135, [(133, .iload_n 2, 1, 2, 0, 0, .inl 0), (134, .ireturn, 1, 0, 0, 0, .inl 0)])
  | n => (n, [])
theorem ck_130 : ∀ pc, px_cks pn_i130 (bk_130 pc).1 pc (bk_130 pc).2 = true := by
  intro pc
  unfold bk_130
  split <;> first | decide +kernel | simp [px_cks]
/-- NoThreeModel.image(I)I -/
def bk_131 : Nat → Nat × List px_E := fun pc => match pc with
  | 0 => (18, [(0, .aload_n 0, 1, 0, 0, 0, .inl 0), (1, .iconst 0, 1, 0, 0, 0, .inl (nI 0)), (2, .putfield 1, 3, 0, 0, 0, .inl 0), (5, .iload_n 1, 1, 1, 0, 0, .inl 0), (6, .i2l, 1, 0, 0, 0, .inl 0), (7, .lconst 0, 1, 0, 0, 0, .inr (.inl (lN 0))), (8, .lconst 1, 1, 0, 0, 0, .inr (.inl (lN 1))), (9, .invokestatic 141, 3, 2, 3, 0, .inl 0), (12, .ifCond .ne 6, 3, 18, 0, 0, .inl 0), (15, .bipush (-2), 2, 0, 0, 0, .inl (-2)), (17, .ireturn, 1, 0, 0, 0, .inl 0)])
  | 18 => (20, [(18, .iconst 0, 1, 0, 0, 0, .inl (nI 0)), (19, .istore_n 2, 1, 2, 0, 0, .inl 0)])
  | 20 => (53, [(20, .iload_n 2, 1, 2, 0, 0, .inl 0), (21, .sipush 1072, 3, 0, 0, 0, .inl (nI 1072)), (24, .if_icmp .ge 29, 3, 53, 0, 0, .inl 0), (27, .aload_n 0, 1, 0, 0, 0, .inl 0), (28, .getfield 13, 3, 0, 1, 2, .inl 0), (31, .sipush 1072, 3, 0, 0, 0, .inl (nI 1072)), (34, .iload_n 1, 1, 1, 0, 0, .inl 0), (35, .iconst 1, 1, 0, 0, 0, .inl (nI 1)), (36, .iadd, 1, 0, 0, 0, .inl 0), (37, .imul, 1, 0, 0, 0, .inl 0), (38, .iload_n 2, 1, 2, 0, 0, .inl 0), (39, .iadd, 1, 0, 0, 0, .inl 0), (40, .aload_n 0, 1, 0, 0, 0, .inl 0), (41, .getfield 13, 3, 0, 1, 2, .inl 0), (44, .iload_n 2, 1, 2, 0, 0, .inl 0), (45, .iaload, 1, 0, 0, 0, .inl 0), (46, .iastore, 1, 0, 0, 0, .inl 0), (47, .iinc 2 1, 3, 2, 0, 0, .inl (nI 1)), (50, .goto (-30), 3, 20, 0, 0, .inl 0)])
  | 53 => (62, [(53, .aload_n 0, 1, 0, 0, 0, .inl 0), (54, .getfield 17, 3, 0, 2, 2, .inl 0), (57, .iload_n 1, 1, 1, 0, 0, .inl 0), (58, .iconst 1, 1, 0, 0, 0, .inl (nI 1)), (59, .bastore, 1, 0, 0, 0, .inl 0), (60, .iconst 0, 1, 0, 0, 0, .inl (nI 0)), (61, .ireturn, 1, 0, 0, 0, .inl 0)])
  | n => (n, [])
theorem ck_131 : ∀ pc, px_cks pn_i131 (bk_131 pc).1 pc (bk_131 pc).2 = true := by
  intro pc
  unfold bk_131
  split <;> first | decide +kernel | simp [px_cks]
/-- NoThreeModel.restore(I)I -/
def bk_132 : Nat → Nat × List px_E := fun pc => match pc with
  | 0 => (18, [(0, .aload_n 0, 1, 0, 0, 0, .inl 0), (1, .iconst 0, 1, 0, 0, 0, .inl (nI 0)), (2, .putfield 1, 3, 0, 0, 0, .inl 0), (5, .iload_n 1, 1, 1, 0, 0, .inl 0), (6, .i2l, 1, 0, 0, 0, .inl 0), (7, .lconst 0, 1, 0, 0, 0, .inr (.inl (lN 0))), (8, .lconst 1, 1, 0, 0, 0, .inr (.inl (lN 1))), (9, .invokestatic 141, 3, 2, 3, 0, .inl 0), (12, .ifCond .ne 6, 3, 18, 0, 0, .inl 0), (15, .bipush (-2), 2, 0, 0, 0, .inl (-2)), (17, .ireturn, 1, 0, 0, 0, .inl 0)])
  | 18 => (30, [(18, .aload_n 0, 1, 0, 0, 0, .inl 0), (19, .getfield 17, 3, 0, 2, 2, .inl 0), (22, .iload_n 1, 1, 1, 0, 0, .inl 0), (23, .baload, 1, 0, 0, 0, .inl 0), (24, .ifCond .ne 6, 3, 30, 0, 0, .inl 0), (27, .bipush (-5), 2, 0, 0, 0, .inl (-5)), (29, .ireturn, 1, 0, 0, 0, .inl 0)])
  | 30 => (32, [(30, .iconst 0, 1, 0, 0, 0, .inl (nI 0)), (31, .istore_n 2, 1, 2, 0, 0, .inl 0)])
  | 32 => (65, [(32, .iload_n 2, 1, 2, 0, 0, .inl 0), (33, .sipush 1072, 3, 0, 0, 0, .inl (nI 1072)), (36, .if_icmp .ge 29, 3, 65, 0, 0, .inl 0), (39, .aload_n 0, 1, 0, 0, 0, .inl 0), (40, .getfield 13, 3, 0, 1, 2, .inl 0), (43, .iload_n 2, 1, 2, 0, 0, .inl 0), (44, .aload_n 0, 1, 0, 0, 0, .inl 0), (45, .getfield 13, 3, 0, 1, 2, .inl 0), (48, .sipush 1072, 3, 0, 0, 0, .inl (nI 1072)), (51, .iload_n 1, 1, 1, 0, 0, .inl 0), (52, .iconst 1, 1, 0, 0, 0, .inl (nI 1)), (53, .iadd, 1, 0, 0, 0, .inl 0), (54, .imul, 1, 0, 0, 0, .inl 0), (55, .iload_n 2, 1, 2, 0, 0, .inl 0), (56, .iadd, 1, 0, 0, 0, .inl 0), (57, .iaload, 1, 0, 0, 0, .inl 0), (58, .iastore, 1, 0, 0, 0, .inl 0), (59, .iinc 2 1, 3, 2, 0, 0, .inl (nI 1)), (62, .goto (-30), 3, 32, 0, 0, .inl 0)])
  | 65 => (67, [(65, .iconst 0, 1, 0, 0, 0, .inl (nI 0)), (66, .ireturn, 1, 0, 0, 0, .inl 0)])
  | n => (n, [])
theorem ck_132 : ∀ pc, px_cks pn_i132 (bk_132 pc).1 pc (bk_132 pc).2 = true := by
  intro pc
  unfold bk_132
  split <;> first | decide +kernel | simp [px_cks]
/-- NoThreeModel.parts()I -/
def bk_133 : Nat → Nat × List px_E := fun pc => match pc with
  | 0 => (6, [(0, .iconst 0, 1, 0, 0, 0, .inl (nI 0)), (1, .istore_n 1, 1, 1, 0, 0, .inl 0), (2, .iconst 0, 1, 0, 0, 0, .inl (nI 0)), (3, .istore_n 2, 1, 2, 0, 0, .inl 0), (4, .iconst 0, 1, 0, 0, 0, .inl (nI 0)), (5, .istore_n 3, 1, 3, 0, 0, .inl 0)])
  | 6 => (28, [(6, .iload_n 3, 1, 3, 0, 0, .inl 0), (7, .aload_n 0, 1, 0, 0, 0, .inl 0), (8, .getfield 13, 3, 0, 1, 2, .inl 0), (11, .iconst 1, 1, 0, 0, 0, .inl (nI 1)), (12, .iaload, 1, 0, 0, 0, .inl 0), (13, .if_icmp .ge 32, 3, 45, 0, 0, .inl 0), (16, .iload_n 2, 1, 2, 0, 0, .inl 0), (17, .i2l, 1, 0, 0, 0, .inl 0), (18, .iload_n 3, 1, 3, 0, 0, .inl 0), (19, .invokestatic 151, 3, 14, 2, 0, .inl 0), (22, .ifCond .eq 6, 3, 28, 0, 0, .inl 0), (25, .goto 14, 3, 39, 0, 0, .inl 0)])
  | 28 => (36, [(28, .iload_n 2, 1, 2, 0, 0, .inl 0), (29, .aload_n 0, 1, 0, 0, 0, .inl 0), (30, .iload_n 3, 1, 3, 0, 0, .inl 0), (31, .invokevirtual 224, 3, 36, 2, 0, .inl 0), (34, .ior, 1, 0, 0, 0, .inl 0), (35, .istore_n 2, 1, 2, 0, 0, .inl 0)])
  | 36 => (39, [(36, .iinc 1 1, 3, 1, 0, 0, .inl (nI 1))])
  | 39 => (45, [(39, .iinc 3 1, 3, 3, 0, 0, .inl (nI 1)), (42, .goto (-36), 3, 6, 0, 0, .inl 0)])
  | 45 => (47, [(45, .iload_n 1, 1, 1, 0, 0, .inl 0), (46, .ireturn, 1, 0, 0, 0, .inl 0)])
  | n => (n, [])
theorem ck_133 : ∀ pc, px_cks pn_i133 (bk_133 pc).1 pc (bk_133 pc).2 = true := by
  intro pc
  unfold bk_133
  split <;> first | decide +kernel | simp [px_cks]
/-- NoThreeModel.count(I)I -/
def bk_134 : Nat → Nat × List px_E := fun pc => match pc with
  | 0 => (52, [(0, .aload_n 0, 1, 0, 0, 0, .inl 0), (1, .iconst 0, 1, 0, 0, 0, .inl (nI 0)), (2, .putfield 1, 3, 0, 0, 0, .inl 0), (5, .iload_n 1, 1, 1, 0, 0, .inl 0), (6, .tableswitch 97 0 7 #[46, 53, 58, 67, 75, 80, 85, 90], 46, 2, 0, 0, .inl 0)])
  | 52 => (59, [(52, .aload_n 0, 1, 0, 0, 0, .inl 0), (53, .getfield 13, 3, 0, 1, 2, .inl 0), (56, .iconst 1, 1, 0, 0, 0, .inl (nI 1)), (57, .iaload, 1, 0, 0, 0, .inl 0), (58, .ireturn, 1, 0, 0, 0, .inl 0)])
  | 59 => (64, [(59, .aload_n 0, 1, 0, 0, 0, .inl 0), (60, .invokevirtual 237, 3, 45, 1, 0, .inl 0), (63, .ireturn, 1, 0, 0, 0, .inl 0)])
  | 64 => (73, [(64, .aload_n 0, 1, 0, 0, 0, .inl 0), (65, .getfield 13, 3, 0, 1, 2, .inl 0), (68, .sipush 158, 3, 0, 0, 0, .inl (nI 158)), (71, .iaload, 1, 0, 0, 0, .inl 0), (72, .ireturn, 1, 0, 0, 0, .inl 0)])
  | 73 => (81, [(73, .aload_n 0, 1, 0, 0, 0, .inl 0), (74, .getfield 13, 3, 0, 1, 2, .inl 0), (77, .bipush 13, 2, 0, 0, 0, .inl (nI 13)), (79, .iaload, 1, 0, 0, 0, .inl 0), (80, .ireturn, 1, 0, 0, 0, .inl 0)])
  | 81 => (86, [(81, .aload_n 0, 1, 0, 0, 0, .inl 0), (82, .invokevirtual 317, 3, 73, 1, 0, .inl 0), (85, .ireturn, 1, 0, 0, 0, .inl 0)])
  | 86 => (91, [(86, .aload_n 0, 1, 0, 0, 0, .inl 0), (87, .invokevirtual 438, 3, 133, 1, 0, .inl 0), (90, .ireturn, 1, 0, 0, 0, .inl 0)])
  | 91 => (96, [(91, .aload_n 0, 1, 0, 0, 0, .inl 0), (92, .getfield 79, 3, 0, 5, 0, .inl 0), (95, .ireturn, 1, 0, 0, 0, .inl 0)])
  | 96 => (103, [(96, .aload_n 0, 1, 0, 0, 0, .inl 0), (97, .getfield 13, 3, 0, 1, 2, .inl 0), (100, .iconst 0, 1, 0, 0, 0, .inl (nI 0)), (101, .iaload, 1, 0, 0, 0, .inl 0), (102, .ireturn, 1, 0, 0, 0, .inl 0)])
  | 103 => (105, [(103, .iconst (-1), 1, 0, 0, 0, .inl (-1)), (104, .ireturn, 1, 0, 0, 0, .inl 0)])
  | n => (n, [])
theorem ck_134 : ∀ pc, px_cks pn_i134 (bk_134 pc).1 pc (bk_134 pc).2 = true := by
  intro pc
  unfold bk_134
  split <;> first | decide +kernel | simp [px_cks]
