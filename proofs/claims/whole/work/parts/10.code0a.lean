/-- NoThreeModel.within(JJJ)Z -/
def bk_2 : Nat → Nat × List px_E := fun pc => match pc with
  | 0 => (17, [(0, .lload_n 0, 1, 0, 0, 0, .inl 0), (1, .lload_n 2, 1, 2, 0, 0, .inl 0), (2, .lcmp, 1, 0, 0, 0, .inl 0), (3, .ifCond .lt 14, 3, 17, 0, 0, .inl 0), (6, .lload_n 0, 1, 0, 0, 0, .inl 0), (7, .lload 4, 2, 4, 0, 0, .inl 0), (9, .lcmp, 1, 0, 0, 0, .inl 0), (10, .ifCond .gt 7, 3, 17, 0, 0, .inl 0), (13, .iconst 1, 1, 0, 0, 0, .inl (nI 1)), (14, .goto 4, 3, 18, 0, 0, .inl 0)])
  | 17 => (18, [(17, .iconst 0, 1, 0, 0, 0, .inl (nI 0))])
  | 18 => (19, [(18, .ireturn, 1, 0, 0, 0, .inl 0)])
  | n => (n, [])
theorem ck_2 : ∀ pc, px_cks pn_i2 (bk_2 pc).1 pc (bk_2 pc).2 = true := by
  intro pc
  unfold bk_2
  split <;> first | decide +kernel | simp [px_cks]
/-- NoThreeModel.feed(IIIII)I -/
def bk_4 : Nat → Nat × List px_E := fun pc => match pc with
  | 0 => (21, [(0, .aload_n 0, 1, 0, 0, 0, .inl 0), (1, .iconst 0, 1, 0, 0, 0, .inl (nI 0)), (2, .putfield 1, 3, 0, 0, 0, .inl 0), (5, .aload_n 0, 1, 0, 0, 0, .inl 0), (6, .getfield 79, 3, 0, 5, 0, .inl 0), (9, .bipush 20, 2, 0, 0, 0, .inl (nI 20)), (11, .iadd, 1, 0, 0, 0, .inl 0), (12, .sipush 900, 3, 0, 0, 0, .inl (nI 900)), (15, .if_icmp .le 6, 3, 21, 0, 0, .inl 0), (18, .bipush (-5), 2, 0, 0, 0, .inl (-5)), (20, .ireturn, 1, 0, 0, 0, .inl 0)])
  | 21 => (24, [(21, .iconst 0, 1, 0, 0, 0, .inl (nI 0)), (22, .istore 6, 2, 6, 0, 0, .inl 0)])
  | 24 => (41, [(24, .iload 6, 2, 6, 0, 0, .inl 0), (26, .bipush 20, 2, 0, 0, 0, .inl (nI 20)), (28, .if_icmp .ge 93, 3, 121, 0, 0, .inl 0), (31, .iload 6, 2, 6, 0, 0, .inl 0), (33, .iconst 4, 1, 0, 0, 0, .inl (nI 4)), (34, .if_icmp .ge 7, 3, 41, 0, 0, .inl 0), (37, .iload_n 1, 1, 1, 0, 0, .inl 0), (38, .goto 39, 3, 77, 0, 0, .inl 0)])
  | 41 => (52, [(41, .iload 6, 2, 6, 0, 0, .inl 0), (43, .bipush 8, 2, 0, 0, 0, .inl (nI 8)), (45, .if_icmp .ge 7, 3, 52, 0, 0, .inl 0), (48, .iload_n 2, 1, 2, 0, 0, .inl 0), (49, .goto 28, 3, 77, 0, 0, .inl 0)])
  | 52 => (63, [(52, .iload 6, 2, 6, 0, 0, .inl 0), (54, .bipush 12, 2, 0, 0, 0, .inl (nI 12)), (56, .if_icmp .ge 7, 3, 63, 0, 0, .inl 0), (59, .iload_n 3, 1, 3, 0, 0, .inl 0), (60, .goto 17, 3, 77, 0, 0, .inl 0)])
  | 63 => (75, [(63, .iload 6, 2, 6, 0, 0, .inl 0), (65, .bipush 16, 2, 0, 0, 0, .inl (nI 16)), (67, .if_icmp .ge 8, 3, 75, 0, 0, .inl 0), (70, .iload 4, 2, 4, 0, 0, .inl 0), (72, .goto 5, 3, 77, 0, 0, .inl 0)])
  | 75 => (77, [(75, .iload 5, 2, 5, 0, 0, .inl 0)])
  | 77 => (79, [(77, .istore 7, 2, 7, 0, 0, .inl 0)])
  | 79 => (121, [(79, .aload_n 0, 1, 0, 0, 0, .inl 0), (80, .getfield 21, 3, 0, 3, 2, .inl 0), (83, .aload_n 0, 1, 0, 0, 0, .inl 0), (84, .getfield 79, 3, 0, 5, 0, .inl 0), (87, .iload 7, 2, 7, 0, 0, .inl 0), (89, .bipush 24, 2, 0, 0, 0, .inl (nI 24)), (91, .bipush 8, 2, 0, 0, 0, .inl (nI 8)), (93, .iload 6, 2, 6, 0, 0, .inl 0), (95, .iconst 4, 1, 0, 0, 0, .inl (nI 4)), (96, .irem, 1, 0, 0, 0, .inl 0), (97, .imul, 1, 0, 0, 0, .inl 0), (98, .isub, 1, 0, 0, 0, .inl 0), (99, .ishr, 1, 0, 0, 0, .inl 0), (100, .sipush 255, 3, 0, 0, 0, .inl (nI 255)), (103, .iand, 1, 0, 0, 0, .inl 0), (104, .iastore, 1, 0, 0, 0, .inl 0), (105, .aload_n 0, 1, 0, 0, 0, .inl 0), (106, .dup, 1, 0, 0, 0, .inl 0), (107, .getfield 79, 3, 0, 5, 0, .inl 0), (110, .iconst 1, 1, 0, 0, 0, .inl (nI 1)), (111, .iadd, 1, 0, 0, 0, .inl 0), (112, .putfield 79, 3, 0, 5, 0, .inl 0), (115, .iinc 6 1, 3, 6, 0, 0, .inl (nI 1)), (118, .goto (-94), 3, 24, 0, 0, .inl 0)])
  | 121 => (126, [(121, .aload_n 0, 1, 0, 0, 0, .inl 0), (122, .getfield 79, 3, 0, 5, 0, .inl 0), (125, .ireturn, 1, 0, 0, 0, .inl 0)])
  | n => (n, [])
theorem ck_4 : ∀ pc, px_cks pn_i4 (bk_4 pc).1 pc (bk_4 pc).2 = true := by
  intro pc
  unfold bk_4
  split <;> first | decide +kernel | simp [px_cks]
/-- NoThreeModel.see(I)I -/
def bk_5 : Nat → Nat × List px_E := fun pc => match pc with
  | 0 => (17, [(0, .iload_n 1, 1, 1, 0, 0, .inl 0), (1, .aload_n 0, 1, 0, 0, 0, .inl 0), (2, .getfield 82, 3, 0, 8, 0, .inl 0), (5, .if_icmp .ge 12, 3, 17, 0, 0, .inl 0), (8, .aload_n 0, 1, 0, 0, 0, .inl 0), (9, .getfield 21, 3, 0, 3, 2, .inl 0), (12, .iload_n 1, 1, 1, 0, 0, .inl 0), (13, .iaload, 1, 0, 0, 0, .inl 0), (14, .goto 4, 3, 18, 0, 0, .inl 0)])
  | 17 => (18, [(17, .iconst (-1), 1, 0, 0, 0, .inl (-1))])
  | 18 => (19, [(18, .ireturn, 1, 0, 0, 0, .inl 0)])
  | n => (n, [])
theorem ck_5 : ∀ pc, px_cks pn_i5 (bk_5 pc).1 pc (bk_5 pc).2 = true := by
  intro pc
  unfold bk_5
  split <;> first | decide +kernel | simp [px_cks]
/-- NoThreeModel.isSmall(I)Z -/
def bk_6 : Nat → Nat × List px_E := fun pc => match pc with
  | 0 => (16, [(0, .iload_n 0, 1, 0, 0, 0, .inl 0), (1, .bipush 97, 2, 0, 0, 0, .inl (nI 97)), (3, .if_icmp .lt 13, 3, 16, 0, 0, .inl 0), (6, .iload_n 0, 1, 0, 0, 0, .inl 0), (7, .bipush 122, 2, 0, 0, 0, .inl (nI 122)), (9, .if_icmp .gt 7, 3, 16, 0, 0, .inl 0), (12, .iconst 1, 1, 0, 0, 0, .inl (nI 1)), (13, .goto 4, 3, 17, 0, 0, .inl 0)])
  | 16 => (17, [(16, .iconst 0, 1, 0, 0, 0, .inl (nI 0))])
  | 17 => (18, [(17, .ireturn, 1, 0, 0, 0, .inl 0)])
  | n => (n, [])
theorem ck_6 : ∀ pc, px_cks pn_i6 (bk_6 pc).1 pc (bk_6 pc).2 = true := by
  intro pc
  unfold bk_6
  split <;> first | decide +kernel | simp [px_cks]
/-- NoThreeModel.isDigit(I)Z -/
def bk_7 : Nat → Nat × List px_E := fun pc => match pc with
  | 0 => (16, [(0, .iload_n 0, 1, 0, 0, 0, .inl 0), (1, .bipush 48, 2, 0, 0, 0, .inl (nI 48)), (3, .if_icmp .lt 13, 3, 16, 0, 0, .inl 0), (6, .iload_n 0, 1, 0, 0, 0, .inl 0), (7, .bipush 57, 2, 0, 0, 0, .inl (nI 57)), (9, .if_icmp .gt 7, 3, 16, 0, 0, .inl 0), (12, .iconst 1, 1, 0, 0, 0, .inl (nI 1)), (13, .goto 4, 3, 17, 0, 0, .inl 0)])
  | 16 => (17, [(16, .iconst 0, 1, 0, 0, 0, .inl (nI 0))])
  | 17 => (18, [(17, .ireturn, 1, 0, 0, 0, .inl 0)])
  | n => (n, [])
theorem ck_7 : ∀ pc, px_cks pn_i7 (bk_7 pc).1 pc (bk_7 pc).2 = true := by
  intro pc
  unfold bk_7
  split <;> first | decide +kernel | simp [px_cks]
/-- NoThreeModel.keyAt()I -/
def bk_8 : Nat → Nat × List px_E := fun pc => match pc with
  | 0 => (4, [(0, .iconst 0, 1, 0, 0, 0, .inl (nI 0)), (1, .istore_n 1, 1, 1, 0, 0, .inl 0), (2, .iconst 1, 1, 0, 0, 0, .inl (nI 1)), (3, .istore_n 2, 1, 2, 0, 0, .inl 0)])
  | 4 => (15, [(4, .iload_n 2, 1, 2, 0, 0, .inl 0), (5, .ldc 85, 2, 0, 0, 0, .inr (.inr (some 1000))), (7, .invokevirtual 87, 3, 23000, 1, 23, .inl 0), (10, .if_icmp .ge 113, 3, 123, 0, 0, .inl 0), (13, .iconst 0, 1, 0, 0, 0, .inl (nI 0)), (14, .istore_n 3, 1, 3, 0, 0, .inl 0)])
  | 15 => (41, [(15, .ldc 85, 2, 0, 0, 0, .inr (.inr (some 1000))), (17, .iload_n 2, 1, 2, 0, 0, .inl 0), (18, .iload_n 3, 1, 3, 0, 0, .inl 0), (19, .iadd, 1, 0, 0, 0, .inl 0), (20, .invokevirtual 93, 3, 23002, 2, 23, .inl 0), (23, .bipush 32, 2, 0, 0, 0, .inl (nI 32)), (25, .if_icmp .eq 44, 3, 69, 0, 0, .inl 0), (28, .aload_n 0, 1, 0, 0, 0, .inl 0), (29, .getfield 97, 3, 0, 6, 0, .inl 0), (32, .iload_n 3, 1, 3, 0, 0, .inl 0), (33, .iadd, 1, 0, 0, 0, .inl 0), (34, .aload_n 0, 1, 0, 0, 0, .inl 0), (35, .getfield 100, 3, 0, 7, 0, .inl 0), (38, .if_icmp .ge 31, 3, 69, 0, 0, .inl 0)])
  | 41 => (63, [(41, .aload_n 0, 1, 0, 0, 0, .inl 0), (42, .getfield 21, 3, 0, 3, 2, .inl 0), (45, .aload_n 0, 1, 0, 0, 0, .inl 0), (46, .getfield 97, 3, 0, 6, 0, .inl 0), (49, .iload_n 3, 1, 3, 0, 0, .inl 0), (50, .iadd, 1, 0, 0, 0, .inl 0), (51, .iaload, 1, 0, 0, 0, .inl 0), (52, .ldc 85, 2, 0, 0, 0, .inr (.inr (some 1000))), (54, .iload_n 2, 1, 2, 0, 0, .inl 0), (55, .iload_n 3, 1, 3, 0, 0, .inl 0), (56, .iadd, 1, 0, 0, 0, .inl 0), (57, .invokevirtual 93, 3, 23002, 2, 23, .inl 0), (60, .if_icmp .ne 9, 3, 69, 0, 0, .inl 0)])
  | 63 => (69, [(63, .iinc 3 1, 3, 3, 0, 0, .inl (nI 1)), (66, .goto (-51), 3, 15, 0, 0, .inl 0)])
  | 69 => (95, [(69, .ldc 85, 2, 0, 0, 0, .inr (.inr (some 1000))), (71, .iload_n 2, 1, 2, 0, 0, .inl 0), (72, .iload_n 3, 1, 3, 0, 0, .inl 0), (73, .iadd, 1, 0, 0, 0, .inl 0), (74, .invokevirtual 93, 3, 23002, 2, 23, .inl 0), (77, .bipush 32, 2, 0, 0, 0, .inl (nI 32)), (79, .if_icmp .ne 18, 3, 97, 0, 0, .inl 0), (82, .aload_n 0, 1, 0, 0, 0, .inl 0), (83, .getfield 97, 3, 0, 6, 0, .inl 0), (86, .iload_n 3, 1, 3, 0, 0, .inl 0), (87, .iadd, 1, 0, 0, 0, .inl 0), (88, .aload_n 0, 1, 0, 0, 0, .inl 0), (89, .getfield 100, 3, 0, 7, 0, .inl 0), (92, .if_icmp .ne 5, 3, 97, 0, 0, .inl 0)])
  | 95 => (97, [(95, .iload_n 1, 1, 1, 0, 0, .inl 0), (96, .ireturn, 1, 0, 0, 0, .inl 0)])
  | 97 => (114, [(97, .ldc 85, 2, 0, 0, 0, .inr (.inr (some 1000))), (99, .iload_n 2, 1, 2, 0, 0, .inl 0), (100, .invokevirtual 93, 3, 23002, 2, 23, .inl 0), (103, .bipush 32, 2, 0, 0, 0, .inl (nI 32)), (105, .if_icmp .eq 9, 3, 114, 0, 0, .inl 0), (108, .iinc 2 1, 3, 2, 0, 0, .inl (nI 1)), (111, .goto (-14), 3, 97, 0, 0, .inl 0)])
  | 114 => (123, [(114, .iinc 2 1, 3, 2, 0, 0, .inl (nI 1)), (117, .iinc 1 1, 3, 1, 0, 0, .inl (nI 1)), (120, .goto (-116), 3, 4, 0, 0, .inl 0)])
  | 123 => (126, [(123, .bipush 15, 2, 0, 0, 0, .inl (nI 15)), (125, .ireturn, 1, 0, 0, 0, .inl 0)])
  | n => (n, [])
theorem ck_8 : ∀ pc, px_cks pn_i8 (bk_8 pc).1 pc (bk_8 pc).2 = true := by
  intro pc
  unfold bk_8
  split <;> first | decide +kernel | simp [px_cks]
/-- NoThreeModel.next()V -/
def bk_9 : Nat → Nat × List px_E := fun pc => match pc with
  | 0 => (8, [(0, .aload_n 0, 1, 0, 0, 0, .inl 0), (1, .aload_n 0, 1, 0, 0, 0, .inl 0), (2, .getfield 100, 3, 0, 7, 0, .inl 0), (5, .putfield 97, 3, 0, 6, 0, .inl 0)])
  | 8 => (34, [(8, .aload_n 0, 1, 0, 0, 0, .inl 0), (9, .aload_n 0, 1, 0, 0, 0, .inl 0), (10, .getfield 97, 3, 0, 6, 0, .inl 0), (13, .invokevirtual 103, 3, 5, 2, 0, .inl 0), (16, .bipush 10, 2, 0, 0, 0, .inl (nI 10)), (18, .if_icmp .eq 16, 3, 34, 0, 0, .inl 0), (21, .aload_n 0, 1, 0, 0, 0, .inl 0), (22, .aload_n 0, 1, 0, 0, 0, .inl 0), (23, .getfield 97, 3, 0, 6, 0, .inl 0), (26, .invokevirtual 103, 3, 5, 2, 0, .inl 0), (29, .bipush 32, 2, 0, 0, 0, .inl (nI 32)), (31, .if_icmp .ne 16, 3, 47, 0, 0, .inl 0)])
  | 34 => (47, [(34, .aload_n 0, 1, 0, 0, 0, .inl 0), (35, .dup, 1, 0, 0, 0, .inl 0), (36, .getfield 97, 3, 0, 6, 0, .inl 0), (39, .iconst 1, 1, 0, 0, 0, .inl (nI 1)), (40, .iadd, 1, 0, 0, 0, .inl 0), (41, .putfield 97, 3, 0, 6, 0, .inl 0), (44, .goto (-36), 3, 8, 0, 0, .inl 0)])
  | 47 => (75, [(47, .aload_n 0, 1, 0, 0, 0, .inl 0), (48, .aload_n 0, 1, 0, 0, 0, .inl 0), (49, .getfield 97, 3, 0, 6, 0, .inl 0), (52, .putfield 100, 3, 0, 7, 0, .inl 0), (55, .aload_n 0, 1, 0, 0, 0, .inl 0), (56, .getfield 97, 3, 0, 6, 0, .inl 0), (59, .aload_n 0, 1, 0, 0, 0, .inl 0), (60, .getfield 82, 3, 0, 8, 0, .inl 0), (63, .if_icmp .lt 12, 3, 75, 0, 0, .inl 0), (66, .aload_n 0, 1, 0, 0, 0, .inl 0), (67, .bipush 17, 2, 0, 0, 0, .inl (nI 17)), (69, .putfield 107, 3, 0, 9, 0, .inl 0), (72, .goto 222, 3, 294, 0, 0, .inl 0)])
  | 75 => (89, [(75, .aload_n 0, 1, 0, 0, 0, .inl 0), (76, .aload_n 0, 1, 0, 0, 0, .inl 0), (77, .getfield 97, 3, 0, 6, 0, .inl 0), (80, .invokevirtual 103, 3, 5, 2, 0, .inl 0), (83, .invokestatic 110, 3, 6, 1, 0, .inl 0), (86, .ifCond .eq 41, 3, 127, 0, 0, .inl 0)])
  | 89 => (103, [(89, .aload_n 0, 1, 0, 0, 0, .inl 0), (90, .aload_n 0, 1, 0, 0, 0, .inl 0), (91, .getfield 100, 3, 0, 7, 0, .inl 0), (94, .invokevirtual 103, 3, 5, 2, 0, .inl 0), (97, .invokestatic 110, 3, 6, 1, 0, .inl 0), (100, .ifCond .eq 16, 3, 116, 0, 0, .inl 0)])
  | 103 => (116, [(103, .aload_n 0, 1, 0, 0, 0, .inl 0), (104, .dup, 1, 0, 0, 0, .inl 0), (105, .getfield 100, 3, 0, 7, 0, .inl 0), (108, .iconst 1, 1, 0, 0, 0, .inl (nI 1)), (109, .iadd, 1, 0, 0, 0, .inl 0), (110, .putfield 100, 3, 0, 7, 0, .inl 0), (113, .goto (-24), 3, 89, 0, 0, .inl 0)])
  | 116 => (127, [(116, .aload_n 0, 1, 0, 0, 0, .inl 0), (117, .aload_n 0, 1, 0, 0, 0, .inl 0), (118, .invokevirtual 114, 3, 8, 1, 0, .inl 0), (121, .putfield 107, 3, 0, 9, 0, .inl 0), (124, .goto 170, 3, 294, 0, 0, .inl 0)])
  | 127 => (141, [(127, .aload_n 0, 1, 0, 0, 0, .inl 0), (128, .aload_n 0, 1, 0, 0, 0, .inl 0), (129, .getfield 97, 3, 0, 6, 0, .inl 0), (132, .invokevirtual 103, 3, 5, 2, 0, .inl 0), (135, .invokestatic 117, 3, 7, 1, 0, .inl 0), (138, .ifCond .eq 98, 3, 236, 0, 0, .inl 0)])
  | 141 => (146, [(141, .aload_n 0, 1, 0, 0, 0, .inl 0), (142, .iconst 0, 1, 0, 0, 0, .inl (nI 0)), (143, .putfield 120, 3, 0, 10, 0, .inl 0)])
  | 146 => (160, [(146, .aload_n 0, 1, 0, 0, 0, .inl 0), (147, .aload_n 0, 1, 0, 0, 0, .inl 0), (148, .getfield 100, 3, 0, 7, 0, .inl 0), (151, .invokevirtual 103, 3, 5, 2, 0, .inl 0), (154, .invokestatic 117, 3, 7, 1, 0, .inl 0), (157, .ifCond .eq 52, 3, 209, 0, 0, .inl 0)])
  | 160 => (196, [(160, .aload_n 0, 1, 0, 0, 0, .inl 0), (161, .getfield 100, 3, 0, 7, 0, .inl 0), (164, .aload_n 0, 1, 0, 0, 0, .inl 0), (165, .getfield 97, 3, 0, 6, 0, .inl 0), (168, .isub, 1, 0, 0, 0, .inl 0), (169, .iconst 3, 1, 0, 0, 0, .inl (nI 3)), (170, .if_icmp .ge 26, 3, 196, 0, 0, .inl 0), (173, .aload_n 0, 1, 0, 0, 0, .inl 0), (174, .bipush 10, 2, 0, 0, 0, .inl (nI 10)), (176, .aload_n 0, 1, 0, 0, 0, .inl 0), (177, .getfield 120, 3, 0, 10, 0, .inl 0), (180, .imul, 1, 0, 0, 0, .inl 0), (181, .aload_n 0, 1, 0, 0, 0, .inl 0), (182, .aload_n 0, 1, 0, 0, 0, .inl 0), (183, .getfield 100, 3, 0, 7, 0, .inl 0), (186, .invokevirtual 103, 3, 5, 2, 0, .inl 0), (189, .iadd, 1, 0, 0, 0, .inl 0), (190, .bipush 48, 2, 0, 0, 0, .inl (nI 48)), (192, .isub, 1, 0, 0, 0, .inl 0), (193, .putfield 120, 3, 0, 10, 0, .inl 0)])
  | 196 => (209, [(196, .aload_n 0, 1, 0, 0, 0, .inl 0), (197, .dup, 1, 0, 0, 0, .inl 0), (198, .getfield 100, 3, 0, 7, 0, .inl 0), (201, .iconst 1, 1, 0, 0, 0, .inl (nI 1)), (202, .iadd, 1, 0, 0, 0, .inl 0), (203, .putfield 100, 3, 0, 7, 0, .inl 0), (206, .goto (-60), 3, 146, 0, 0, .inl 0)])
  | 209 => (228, [(209, .aload_n 0, 1, 0, 0, 0, .inl 0), (210, .aload_n 0, 1, 0, 0, 0, .inl 0), (211, .getfield 100, 3, 0, 7, 0, .inl 0), (214, .aload_n 0, 1, 0, 0, 0, .inl 0), (215, .getfield 97, 3, 0, 6, 0, .inl 0), (218, .isub, 1, 0, 0, 0, .inl 0), (219, .iconst 3, 1, 0, 0, 0, .inl (nI 3)), (220, .if_icmp .le 8, 3, 228, 0, 0, .inl 0), (223, .bipush 18, 2, 0, 0, 0, .inl (nI 18)), (225, .goto 5, 3, 230, 0, 0, .inl 0)])
  | 228 => (230, [(228, .bipush 16, 2, 0, 0, 0, .inl (nI 16))])
  | 230 => (236, [(230, .putfield 107, 3, 0, 9, 0, .inl 0), (233, .goto 61, 3, 294, 0, 0, .inl 0)])
  | 236 => (254, [(236, .aload_n 0, 1, 0, 0, 0, .inl 0), (237, .dup, 1, 0, 0, 0, .inl 0), (238, .getfield 100, 3, 0, 7, 0, .inl 0), (241, .iconst 1, 1, 0, 0, 0, .inl (nI 1)), (242, .iadd, 1, 0, 0, 0, .inl 0), (243, .putfield 100, 3, 0, 7, 0, .inl 0), (246, .aload_n 0, 1, 0, 0, 0, .inl 0), (247, .bipush 18, 2, 0, 0, 0, .inl (nI 18)), (249, .putfield 107, 3, 0, 9, 0, .inl 0), (252, .iconst 0, 1, 0, 0, 0, .inl (nI 0)), (253, .istore_n 1, 1, 1, 0, 0, .inl 0)])
  | 254 => (280, [(254, .iload_n 1, 1, 1, 0, 0, .inl 0), (255, .ldc 123, 2, 0, 0, 0, .inr (.inr (some 1001))), (257, .invokevirtual 87, 3, 23000, 1, 23, .inl 0), (260, .if_icmp .ge 34, 3, 294, 0, 0, .inl 0), (263, .aload_n 0, 1, 0, 0, 0, .inl 0), (264, .aload_n 0, 1, 0, 0, 0, .inl 0), (265, .getfield 97, 3, 0, 6, 0, .inl 0), (268, .invokevirtual 103, 3, 5, 2, 0, .inl 0), (271, .ldc 123, 2, 0, 0, 0, .inr (.inr (some 1001))), (273, .iload_n 1, 1, 1, 0, 0, .inl 0), (274, .invokevirtual 93, 3, 23002, 2, 23, .inl 0), (277, .if_icmp .ne 11, 3, 288, 0, 0, .inl 0)])
  | 280 => (288, [(280, .aload_n 0, 1, 0, 0, 0, .inl 0), (281, .bipush 20, 2, 0, 0, 0, .inl (nI 20)), (283, .iload_n 1, 1, 1, 0, 0, .inl 0), (284, .iadd, 1, 0, 0, 0, .inl 0), (285, .putfield 107, 3, 0, 9, 0, .inl 0)])
  | 288 => (294, [(288, .iinc 1 1, 3, 1, 0, 0, .inl (nI 1)), (291, .goto (-37), 3, 254, 0, 0, .inl 0)])
  | 294 => (295, [(294, .return_, 1, 0, 0, 0, .inl 0)])
  | n => (n, [])
theorem ck_9 : ∀ pc, px_cks pn_i9 (bk_9 pc).1 pc (bk_9 pc).2 = true := by
  intro pc
  unfold bk_9
  split <;> first | decide +kernel | simp [px_cks]
/-- NoThreeModel.fails(I)V -/
def bk_10 : Nat → Nat × List px_E := fun pc => match pc with
  | 0 => (8, [(0, .aload_n 0, 1, 0, 0, 0, .inl 0), (1, .getfield 125, 3, 0, 11, 0, .inl 0), (4, .ifCond .eq 4, 3, 8, 0, 0, .inl 0), (7, .return_, 1, 0, 0, 0, .inl 0)])
  | 8 => (22, [(8, .aload_n 0, 1, 0, 0, 0, .inl 0), (9, .aload_n 0, 1, 0, 0, 0, .inl 0), (10, .getfield 107, 3, 0, 9, 0, .inl 0), (13, .bipush 18, 2, 0, 0, 0, .inl (nI 18)), (15, .if_icmp .ne 7, 3, 22, 0, 0, .inl 0), (18, .iconst 1, 1, 0, 0, 0, .inl (nI 1)), (19, .goto 4, 3, 23, 0, 0, .inl 0)])
  | 22 => (23, [(22, .iload_n 1, 1, 1, 0, 0, .inl 0)])
  | 23 => (35, [(23, .putfield 125, 3, 0, 11, 0, .inl 0), (26, .aload_n 0, 1, 0, 0, 0, .inl 0), (27, .aload_n 0, 1, 0, 0, 0, .inl 0), (28, .getfield 97, 3, 0, 6, 0, .inl 0), (31, .putfield 128, 3, 0, 12, 0, .inl 0), (34, .return_, 1, 0, 0, 0, .inl 0)])
  | n => (n, [])
theorem ck_10 : ∀ pc, px_cks pn_i10 (bk_10 pc).1 pc (bk_10 pc).2 = true := by
  intro pc
  unfold bk_10
  split <;> first | decide +kernel | simp [px_cks]
/-- NoThreeModel.is(I)Z -/
def bk_11 : Nat → Nat × List px_E := fun pc => match pc with
  | 0 => (19, [(0, .aload_n 0, 1, 0, 0, 0, .inl 0), (1, .getfield 125, 3, 0, 11, 0, .inl 0), (4, .ifCond .ne 15, 3, 19, 0, 0, .inl 0), (7, .aload_n 0, 1, 0, 0, 0, .inl 0), (8, .getfield 107, 3, 0, 9, 0, .inl 0), (11, .iload_n 1, 1, 1, 0, 0, .inl 0), (12, .if_icmp .ne 7, 3, 19, 0, 0, .inl 0), (15, .iconst 1, 1, 0, 0, 0, .inl (nI 1)), (16, .goto 4, 3, 20, 0, 0, .inl 0)])
  | 19 => (20, [(19, .iconst 0, 1, 0, 0, 0, .inl (nI 0))])
  | 20 => (21, [(20, .ireturn, 1, 0, 0, 0, .inl 0)])
  | n => (n, [])
theorem ck_11 : ∀ pc, px_cks pn_i11 (bk_11 pc).1 pc (bk_11 pc).2 = true := by
  intro pc
  unfold bk_11
  split <;> first | decide +kernel | simp [px_cks]
/-- NoThreeModel.eats(I)Z -/
def bk_12 : Nat → Nat × List px_E := fun pc => match pc with
  | 0 => (10, [(0, .aload_n 0, 1, 0, 0, 0, .inl 0), (1, .iload_n 1, 1, 1, 0, 0, .inl 0), (2, .invokevirtual 131, 3, 11, 2, 0, .inl 0), (5, .ifCond .ne 5, 3, 10, 0, 0, .inl 0), (8, .iconst 0, 1, 0, 0, 0, .inl (nI 0)), (9, .ireturn, 1, 0, 0, 0, .inl 0)])
  | 10 => (16, [(10, .aload_n 0, 1, 0, 0, 0, .inl 0), (11, .invokevirtual 134, 3, 9, 1, 0, .inl 0), (14, .iconst 1, 1, 0, 0, 0, .inl (nI 1)), (15, .ireturn, 1, 0, 0, 0, .inl 0)])
  | n => (n, [])
theorem ck_12 : ∀ pc, px_cks pn_i12 (bk_12 pc).1 pc (bk_12 pc).2 = true := by
  intro pc
  unfold bk_12
  split <;> first | decide +kernel | simp [px_cks]
/-- NoThreeModel.takes(II)I -/
def bk_13 : Nat → Nat × List px_E := fun pc => match pc with
  | 0 => (17, [(0, .aload_n 0, 1, 0, 0, 0, .inl 0), (1, .bipush 16, 2, 0, 0, 0, .inl (nI 16)), (3, .invokevirtual 131, 3, 11, 2, 0, .inl 0), (6, .ifCond .ne 11, 3, 17, 0, 0, .inl 0), (9, .aload_n 0, 1, 0, 0, 0, .inl 0), (10, .iconst 2, 1, 0, 0, 0, .inl (nI 2)), (11, .invokevirtual 137, 3, 10, 2, 0, .inl 0), (14, .goto 23, 3, 37, 0, 0, .inl 0)])
  | 17 => (37, [(17, .aload_n 0, 1, 0, 0, 0, .inl 0), (18, .getfield 120, 3, 0, 10, 0, .inl 0), (21, .i2l, 1, 0, 0, 0, .inl 0), (22, .iload_n 1, 1, 1, 0, 0, .inl 0), (23, .i2l, 1, 0, 0, 0, .inl 0), (24, .iload_n 2, 1, 2, 0, 0, .inl 0), (25, .i2l, 1, 0, 0, 0, .inl 0), (26, .invokestatic 141, 3, 2, 3, 0, .inl 0), (29, .ifCond .ne 8, 3, 37, 0, 0, .inl 0), (32, .aload_n 0, 1, 0, 0, 0, .inl 0), (33, .iconst 3, 1, 0, 0, 0, .inl (nI 3)), (34, .invokevirtual 137, 3, 10, 2, 0, .inl 0)])
  | 37 => (53, [(37, .aload_n 0, 1, 0, 0, 0, .inl 0), (38, .getfield 120, 3, 0, 10, 0, .inl 0), (41, .istore_n 3, 1, 3, 0, 0, .inl 0), (42, .aload_n 0, 1, 0, 0, 0, .inl 0), (43, .getfield 125, 3, 0, 11, 0, .inl 0), (46, .ifCond .ne 7, 3, 53, 0, 0, .inl 0), (49, .aload_n 0, 1, 0, 0, 0, .inl 0), (50, .invokevirtual 134, 3, 9, 1, 0, .inl 0)])
  | 53 => (55, [(53, .iload_n 3, 1, 3, 0, 0, .inl 0), (54, .ireturn, 1, 0, 0, 0, .inl 0)])
  | n => (n, [])
theorem ck_13 : ∀ pc, px_cks pn_i13 (bk_13 pc).1 pc (bk_13 pc).2 = true := by
  intro pc
  unfold bk_13
  split <;> first | decide +kernel | simp [px_cks]
/-- NoThreeModel.isIn(JI)Z -/
def bk_14 : Nat → Nat × List px_E := fun pc => match pc with
  | 0 => (14, [(0, .lload_n 0, 1, 0, 0, 0, .inl 0), (1, .iload_n 2, 1, 2, 0, 0, .inl 0), (2, .lshr, 1, 0, 0, 0, .inl 0), (3, .lconst 1, 1, 0, 0, 0, .inr (.inl (lN 1))), (4, .land, 1, 0, 0, 0, .inl 0), (5, .lconst 1, 1, 0, 0, 0, .inr (.inl (lN 1))), (6, .lcmp, 1, 0, 0, 0, .inl 0), (7, .ifCond .ne 7, 3, 14, 0, 0, .inl 0), (10, .iconst 1, 1, 0, 0, 0, .inl (nI 1)), (11, .goto 4, 3, 15, 0, 0, .inl 0)])
  | 14 => (15, [(14, .iconst 0, 1, 0, 0, 0, .inl (nI 0))])
  | 15 => (16, [(15, .ireturn, 1, 0, 0, 0, .inl 0)])
  | n => (n, [])
theorem ck_14 : ∀ pc, px_cks pn_i14 (bk_14 pc).1 pc (bk_14 pc).2 = true := by
  intro pc
  unfold bk_14
  split <;> first | decide +kernel | simp [px_cks]
/-- NoThreeModel.joins([III)V -/
def bk_15 : Nat → Nat × List px_E := fun pc => match pc with
  | 0 => (23, [(0, .aload_n 0, 1, 0, 0, 0, .inl 0), (1, .iconst 2, 1, 0, 0, 0, .inl (nI 2)), (2, .iload_n 1, 1, 1, 0, 0, .inl 0), (3, .iadd, 1, 0, 0, 0, .inl 0), (4, .dup2, 1, 0, 0, 0, .inl 0), (5, .iaload, 1, 0, 0, 0, .inl 0), (6, .iconst 1, 1, 0, 0, 0, .inl (nI 1)), (7, .iload_n 2, 1, 2, 0, 0, .inl 0), (8, .ishl, 1, 0, 0, 0, .inl 0), (9, .ior, 1, 0, 0, 0, .inl 0), (10, .iastore, 1, 0, 0, 0, .inl 0), (11, .aload_n 0, 1, 0, 0, 0, .inl 0), (12, .iconst 2, 1, 0, 0, 0, .inl (nI 2)), (13, .iload_n 2, 1, 2, 0, 0, .inl 0), (14, .iadd, 1, 0, 0, 0, .inl 0), (15, .dup2, 1, 0, 0, 0, .inl 0), (16, .iaload, 1, 0, 0, 0, .inl 0), (17, .iconst 1, 1, 0, 0, 0, .inl (nI 1)), (18, .iload_n 1, 1, 1, 0, 0, .inl 0), (19, .ishl, 1, 0, 0, 0, .inl 0), (20, .ior, 1, 0, 0, 0, .inl 0), (21, .iastore, 1, 0, 0, 0, .inl 0), (22, .return_, 1, 0, 0, 0, .inl 0)])
  | n => (n, [])
theorem ck_15 : ∀ pc, px_cks pn_i15 (bk_15 pc).1 pc (bk_15 pc).2 = true := by
  intro pc
  unfold bk_15
  split <;> first | decide +kernel | simp [px_cks]
/-- NoThreeModel.readHouses()V -/
def bk_16 : Nat → Nat × List px_E := fun pc => match pc with
  | 0 => (45, [(0, .aload_n 0, 1, 0, 0, 0, .inl 0), (1, .bipush 16, 2, 0, 0, 0, .inl (nI 16)), (3, .invokevirtual 131, 3, 11, 2, 0, .inl 0), (6, .ifCond .eq 39, 3, 45, 0, 0, .inl 0), (9, .aload_n 0, 1, 0, 0, 0, .inl 0), (10, .getfield 120, 3, 0, 10, 0, .inl 0), (13, .i2l, 1, 0, 0, 0, .inl 0), (14, .lconst 1, 1, 0, 0, 0, .inr (.inl (lN 1))), (15, .ldc2_w 145, 3, 0, 0, 0, .inr (.inl (lN 11))), (18, .invokestatic 141, 3, 2, 3, 0, .inl 0), (21, .ifCond .eq 24, 3, 45, 0, 0, .inl 0), (24, .aload_n 0, 1, 0, 0, 0, .inl 0), (25, .getfield 24, 3, 0, 4, 2, .inl 0), (28, .iconst 1, 1, 0, 0, 0, .inl (nI 1)), (29, .iaload, 1, 0, 0, 0, .inl 0), (30, .aload_n 0, 1, 0, 0, 0, .inl 0), (31, .getfield 120, 3, 0, 10, 0, .inl 0), (34, .iadd, 1, 0, 0, 0, .inl 0), (35, .bipush 11, 2, 0, 0, 0, .inl (nI 11)), (37, .if_icmp .le 8, 3, 45, 0, 0, .inl 0), (40, .aload_n 0, 1, 0, 0, 0, .inl 0), (41, .iconst 4, 1, 0, 0, 0, .inl (nI 4)), (42, .invokevirtual 137, 3, 10, 2, 0, .inl 0)])
  | 45 => (70, [(45, .aload_n 0, 1, 0, 0, 0, .inl 0), (46, .iconst 1, 1, 0, 0, 0, .inl (nI 1)), (47, .bipush 11, 2, 0, 0, 0, .inl (nI 11)), (49, .invokevirtual 147, 3, 13, 3, 0, .inl 0), (52, .istore_n 1, 1, 1, 0, 0, .inl 0), (53, .aload_n 0, 1, 0, 0, 0, .inl 0), (54, .getfield 125, 3, 0, 11, 0, .inl 0), (57, .ifCond .ne 13, 3, 70, 0, 0, .inl 0), (60, .aload_n 0, 1, 0, 0, 0, .inl 0), (61, .getfield 24, 3, 0, 4, 2, .inl 0), (64, .iconst 1, 1, 0, 0, 0, .inl (nI 1)), (65, .dup2, 1, 0, 0, 0, .inl 0), (66, .iaload, 1, 0, 0, 0, .inl 0), (67, .iload_n 1, 1, 1, 0, 0, .inl 0), (68, .iadd, 1, 0, 0, 0, .inl 0), (69, .iastore, 1, 0, 0, 0, .inl 0)])
  | 70 => (71, [(70, .return_, 1, 0, 0, 0, .inl 0)])
  | n => (n, [])
theorem ck_16 : ∀ pc, px_cks pn_i16 (bk_16 pc).1 pc (bk_16 pc).2 = true := by
  intro pc
  unfold bk_16
  split <;> first | decide +kernel | simp [px_cks]
/-- NoThreeModel.readDoor()V -/
def bk_17 : Nat → Nat × List px_E := fun pc => match pc with
  | 0 => (23, [(0, .aload_n 0, 1, 0, 0, 0, .inl 0), (1, .iconst 0, 1, 0, 0, 0, .inl (nI 0)), (2, .aload_n 0, 1, 0, 0, 0, .inl 0), (3, .getfield 24, 3, 0, 4, 2, .inl 0), (6, .iconst 1, 1, 0, 0, 0, .inl (nI 1)), (7, .iaload, 1, 0, 0, 0, .inl 0), (8, .iconst 1, 1, 0, 0, 0, .inl (nI 1)), (9, .isub, 1, 0, 0, 0, .inl 0), (10, .invokevirtual 147, 3, 13, 3, 0, .inl 0), (13, .istore_n 1, 1, 1, 0, 0, .inl 0), (14, .aload_n 0, 1, 0, 0, 0, .inl 0), (15, .bipush 16, 2, 0, 0, 0, .inl (nI 16)), (17, .invokevirtual 131, 3, 11, 2, 0, .inl 0), (20, .ifCond .eq 56, 3, 76, 0, 0, .inl 0)])
  | 23 => (44, [(23, .aload_n 0, 1, 0, 0, 0, .inl 0), (24, .getfield 120, 3, 0, 10, 0, .inl 0), (27, .i2l, 1, 0, 0, 0, .inl 0), (28, .lconst 0, 1, 0, 0, 0, .inr (.inl (lN 0))), (29, .aload_n 0, 1, 0, 0, 0, .inl 0), (30, .getfield 24, 3, 0, 4, 2, .inl 0), (33, .iconst 1, 1, 0, 0, 0, .inl (nI 1)), (34, .iaload, 1, 0, 0, 0, .inl 0), (35, .iconst 1, 1, 0, 0, 0, .inl (nI 1)), (36, .isub, 1, 0, 0, 0, .inl 0), (37, .i2l, 1, 0, 0, 0, .inl 0), (38, .invokestatic 141, 3, 2, 3, 0, .inl 0), (41, .ifCond .eq 35, 3, 76, 0, 0, .inl 0)])
  | 44 => (71, [(44, .aload_n 0, 1, 0, 0, 0, .inl 0), (45, .getfield 120, 3, 0, 10, 0, .inl 0), (48, .iload_n 1, 1, 1, 0, 0, .inl 0), (49, .if_icmp .eq 22, 3, 71, 0, 0, .inl 0), (52, .aload_n 0, 1, 0, 0, 0, .inl 0), (53, .getfield 24, 3, 0, 4, 2, .inl 0), (56, .iconst 2, 1, 0, 0, 0, .inl (nI 2)), (57, .iload_n 1, 1, 1, 0, 0, .inl 0), (58, .iadd, 1, 0, 0, 0, .inl 0), (59, .iaload, 1, 0, 0, 0, .inl 0), (60, .i2l, 1, 0, 0, 0, .inl 0), (61, .aload_n 0, 1, 0, 0, 0, .inl 0), (62, .getfield 120, 3, 0, 10, 0, .inl 0), (65, .invokestatic 151, 3, 14, 2, 0, .inl 0), (68, .ifCond .eq 8, 3, 76, 0, 0, .inl 0)])
  | 71 => (76, [(71, .aload_n 0, 1, 0, 0, 0, .inl 0), (72, .iconst 3, 1, 0, 0, 0, .inl (nI 3)), (73, .invokevirtual 137, 3, 10, 2, 0, .inl 0)])
  | 76 => (97, [(76, .aload_n 0, 1, 0, 0, 0, .inl 0), (77, .iconst 0, 1, 0, 0, 0, .inl (nI 0)), (78, .aload_n 0, 1, 0, 0, 0, .inl 0), (79, .getfield 24, 3, 0, 4, 2, .inl 0), (82, .iconst 1, 1, 0, 0, 0, .inl (nI 1)), (83, .iaload, 1, 0, 0, 0, .inl 0), (84, .iconst 1, 1, 0, 0, 0, .inl (nI 1)), (85, .isub, 1, 0, 0, 0, .inl 0), (86, .invokevirtual 147, 3, 13, 3, 0, .inl 0), (89, .istore_n 2, 1, 2, 0, 0, .inl 0), (90, .aload_n 0, 1, 0, 0, 0, .inl 0), (91, .getfield 125, 3, 0, 11, 0, .inl 0), (94, .ifCond .ne 12, 3, 106, 0, 0, .inl 0)])
  | 97 => (106, [(97, .aload_n 0, 1, 0, 0, 0, .inl 0), (98, .getfield 24, 3, 0, 4, 2, .inl 0), (101, .iload_n 1, 1, 1, 0, 0, .inl 0), (102, .iload_n 2, 1, 2, 0, 0, .inl 0), (103, .invokestatic 155, 3, 15, 3, 0, .inl 0)])
  | 106 => (107, [(106, .return_, 1, 0, 0, 0, .inl 0)])
  | n => (n, [])
theorem ck_17 : ∀ pc, px_cks pn_i17 (bk_17 pc).1 pc (bk_17 pc).2 = true := by
  intro pc
  unfold bk_17
  split <;> first | decide +kernel | simp [px_cks]
/-- NoThreeModel.readRing()V -/
def bk_18 : Nat → Nat × List px_E := fun pc => match pc with
  | 0 => (9, [(0, .iconst (-1), 1, 0, 0, 0, .inl (-1)), (1, .istore_n 1, 1, 1, 0, 0, .inl 0), (2, .iconst (-1), 1, 0, 0, 0, .inl (-1)), (3, .istore_n 2, 1, 2, 0, 0, .inl 0), (4, .iconst 0, 1, 0, 0, 0, .inl (nI 0)), (5, .istore_n 3, 1, 3, 0, 0, .inl 0), (6, .iconst 0, 1, 0, 0, 0, .inl (nI 0)), (7, .istore 4, 2, 4, 0, 0, .inl 0)])
  | 9 => (31, [(9, .aload_n 0, 1, 0, 0, 0, .inl 0), (10, .getfield 125, 3, 0, 11, 0, .inl 0), (13, .ifCond .ne 125, 3, 138, 0, 0, .inl 0), (16, .iload 4, 2, 4, 0, 0, .inl 0), (18, .iconst 3, 1, 0, 0, 0, .inl (nI 3)), (19, .if_icmp .lt 12, 3, 31, 0, 0, .inl 0), (22, .aload_n 0, 1, 0, 0, 0, .inl 0), (23, .getfield 107, 3, 0, 9, 0, .inl 0), (26, .bipush 16, 2, 0, 0, 0, .inl (nI 16)), (28, .if_icmp .ne 110, 3, 138, 0, 0, .inl 0)])
  | 31 => (61, [(31, .aload_n 0, 1, 0, 0, 0, .inl 0), (32, .bipush 16, 2, 0, 0, 0, .inl (nI 16)), (34, .invokevirtual 131, 3, 11, 2, 0, .inl 0), (37, .ifCond .eq 41, 3, 78, 0, 0, .inl 0), (40, .aload_n 0, 1, 0, 0, 0, .inl 0), (41, .getfield 120, 3, 0, 10, 0, .inl 0), (44, .i2l, 1, 0, 0, 0, .inl 0), (45, .lconst 0, 1, 0, 0, 0, .inr (.inl (lN 0))), (46, .aload_n 0, 1, 0, 0, 0, .inl 0), (47, .getfield 24, 3, 0, 4, 2, .inl 0), (50, .iconst 1, 1, 0, 0, 0, .inl (nI 1)), (51, .iaload, 1, 0, 0, 0, .inl 0), (52, .iconst 1, 1, 0, 0, 0, .inl (nI 1)), (53, .isub, 1, 0, 0, 0, .inl 0), (54, .i2l, 1, 0, 0, 0, .inl 0), (55, .invokestatic 141, 3, 2, 3, 0, .inl 0), (58, .ifCond .eq 20, 3, 78, 0, 0, .inl 0)])
  | 61 => (78, [(61, .iload_n 3, 1, 3, 0, 0, .inl 0), (62, .i2l, 1, 0, 0, 0, .inl 0), (63, .aload_n 0, 1, 0, 0, 0, .inl 0), (64, .getfield 120, 3, 0, 10, 0, .inl 0), (67, .invokestatic 151, 3, 14, 2, 0, .inl 0), (70, .ifCond .eq 8, 3, 78, 0, 0, .inl 0), (73, .aload_n 0, 1, 0, 0, 0, .inl 0), (74, .iconst 3, 1, 0, 0, 0, .inl (nI 3)), (75, .invokevirtual 137, 3, 10, 2, 0, .inl 0)])
  | 78 => (101, [(78, .aload_n 0, 1, 0, 0, 0, .inl 0), (79, .iconst 0, 1, 0, 0, 0, .inl (nI 0)), (80, .aload_n 0, 1, 0, 0, 0, .inl 0), (81, .getfield 24, 3, 0, 4, 2, .inl 0), (84, .iconst 1, 1, 0, 0, 0, .inl (nI 1)), (85, .iaload, 1, 0, 0, 0, .inl 0), (86, .iconst 1, 1, 0, 0, 0, .inl (nI 1)), (87, .isub, 1, 0, 0, 0, .inl 0), (88, .invokevirtual 147, 3, 13, 3, 0, .inl 0), (91, .istore 5, 2, 5, 0, 0, .inl 0), (93, .aload_n 0, 1, 0, 0, 0, .inl 0), (94, .getfield 125, 3, 0, 11, 0, .inl 0), (97, .ifCond .eq 4, 3, 101, 0, 0, .inl 0), (100, .return_, 1, 0, 0, 0, .inl 0)])
  | 101 => (108, [(101, .iload_n 3, 1, 3, 0, 0, .inl 0), (102, .iconst 1, 1, 0, 0, 0, .inl (nI 1)), (103, .iload 5, 2, 5, 0, 0, .inl 0), (105, .ishl, 1, 0, 0, 0, .inl 0), (106, .ior, 1, 0, 0, 0, .inl 0), (107, .istore_n 3, 1, 3, 0, 0, .inl 0)])
  | 108 => (119, [(108, .iload 4, 2, 4, 0, 0, .inl 0), (110, .ifCond .ne 9, 3, 119, 0, 0, .inl 0), (113, .iload 5, 2, 5, 0, 0, .inl 0), (115, .istore_n 1, 1, 1, 0, 0, .inl 0), (116, .goto 13, 3, 129, 0, 0, .inl 0)])
  | 119 => (129, [(119, .aload_n 0, 1, 0, 0, 0, .inl 0), (120, .getfield 24, 3, 0, 4, 2, .inl 0), (123, .iload_n 2, 1, 2, 0, 0, .inl 0), (124, .iload 5, 2, 5, 0, 0, .inl 0), (126, .invokestatic 155, 3, 15, 3, 0, .inl 0)])
  | 129 => (138, [(129, .iload 5, 2, 5, 0, 0, .inl 0), (131, .istore_n 2, 1, 2, 0, 0, .inl 0), (132, .iinc 4 1, 3, 4, 0, 0, .inl (nI 1)), (135, .goto (-126), 3, 9, 0, 0, .inl 0)])
  | 138 => (154, [(138, .aload_n 0, 1, 0, 0, 0, .inl 0), (139, .getfield 125, 3, 0, 11, 0, .inl 0), (142, .ifCond .ne 12, 3, 154, 0, 0, .inl 0), (145, .aload_n 0, 1, 0, 0, 0, .inl 0), (146, .getfield 24, 3, 0, 4, 2, .inl 0), (149, .iload_n 2, 1, 2, 0, 0, .inl 0), (150, .iload_n 1, 1, 1, 0, 0, .inl 0), (151, .invokestatic 155, 3, 15, 3, 0, .inl 0)])
  | 154 => (155, [(154, .return_, 1, 0, 0, 0, .inl 0)])
  | n => (n, [])
theorem ck_18 : ∀ pc, px_cks pn_i18 (bk_18 pc).1 pc (bk_18 pc).2 = true := by
  intro pc
  unfold bk_18
  split <;> first | decide +kernel | simp [px_cks]
/-- NoThreeModel.codes(I)V -/
def bk_19 : Nat → Nat × List px_E := fun pc => match pc with
  | 0 => (8, [(0, .aload_n 0, 1, 0, 0, 0, .inl 0), (1, .getfield 125, 3, 0, 11, 0, .inl 0), (4, .ifCond .eq 4, 3, 8, 0, 0, .inl 0), (7, .return_, 1, 0, 0, 0, .inl 0)])
  | 8 => (39, [(8, .aload_n 0, 1, 0, 0, 0, .inl 0), (9, .getfield 24, 3, 0, 4, 2, .inl 0), (12, .sipush 172, 3, 0, 0, 0, .inl (nI 172)), (15, .aload_n 0, 1, 0, 0, 0, .inl 0), (16, .getfield 24, 3, 0, 4, 2, .inl 0), (19, .sipush 171, 3, 0, 0, 0, .inl (nI 171)), (22, .iaload, 1, 0, 0, 0, .inl 0), (23, .iadd, 1, 0, 0, 0, .inl 0), (24, .iload_n 1, 1, 1, 0, 0, .inl 0), (25, .iastore, 1, 0, 0, 0, .inl 0), (26, .aload_n 0, 1, 0, 0, 0, .inl 0), (27, .getfield 24, 3, 0, 4, 2, .inl 0), (30, .sipush 171, 3, 0, 0, 0, .inl (nI 171)), (33, .dup2, 1, 0, 0, 0, .inl 0), (34, .iaload, 1, 0, 0, 0, .inl 0), (35, .iconst 1, 1, 0, 0, 0, .inl (nI 1)), (36, .iadd, 1, 0, 0, 0, .inl 0), (37, .iastore, 1, 0, 0, 0, .inl 0), (38, .return_, 1, 0, 0, 0, .inl 0)])
  | n => (n, [])
theorem ck_19 : ∀ pc, px_cks pn_i19 (bk_19 pc).1 pc (bk_19 pc).2 = true := by
  intro pc
  unfold bk_19
  split <;> first | decide +kernel | simp [px_cks]
/-- NoThreeModel.goesIn(I)Z -/
def bk_20 : Nat → Nat × List px_E := fun pc => match pc with
  | 0 => (11, [(0, .iload_n 1, 1, 1, 0, 0, .inl 0), (1, .bipush 6, 2, 0, 0, 0, .inl (nI 6)), (3, .if_icmp .ne 8, 3, 11, 0, 0, .inl 0), (6, .aload_n 0, 1, 0, 0, 0, .inl 0), (7, .iconst 4, 1, 0, 0, 0, .inl (nI 4)), (8, .invokevirtual 137, 3, 10, 2, 0, .inl 0)])
  | 11 => (22, [(11, .aload_n 0, 1, 0, 0, 0, .inl 0), (12, .getfield 125, 3, 0, 11, 0, .inl 0), (15, .ifCond .ne 7, 3, 22, 0, 0, .inl 0), (18, .aload_n 0, 1, 0, 0, 0, .inl 0), (19, .invokevirtual 134, 3, 9, 1, 0, .inl 0)])
  | 22 => (33, [(22, .aload_n 0, 1, 0, 0, 0, .inl 0), (23, .getfield 125, 3, 0, 11, 0, .inl 0), (26, .ifCond .ne 7, 3, 33, 0, 0, .inl 0), (29, .iconst 1, 1, 0, 0, 0, .inl (nI 1)), (30, .goto 4, 3, 34, 0, 0, .inl 0)])
  | 33 => (34, [(33, .iconst 0, 1, 0, 0, 0, .inl (nI 0))])
  | 34 => (35, [(34, .ireturn, 1, 0, 0, 0, .inl 0)])
  | n => (n, [])
theorem ck_20 : ∀ pc, px_cks pn_i20 (bk_20 pc).1 pc (bk_20 pc).2 = true := by
  intro pc
  unfold bk_20
  split <;> first | decide +kernel | simp [px_cks]
/-- NoThreeModel.readAtom(I)V -/
def bk_21 : Nat → Nat × List px_E := fun pc => match pc with
  | 0 => (17, [(0, .aload_n 0, 1, 0, 0, 0, .inl 0), (1, .bipush 16, 2, 0, 0, 0, .inl (nI 16)), (3, .invokevirtual 131, 3, 11, 2, 0, .inl 0), (6, .ifCond .eq 18, 3, 24, 0, 0, .inl 0), (9, .aload_n 0, 1, 0, 0, 0, .inl 0), (10, .aload_n 0, 1, 0, 0, 0, .inl 0), (11, .getfield 120, 3, 0, 10, 0, .inl 0), (14, .invokevirtual 159, 3, 19, 2, 0, .inl 0)])
  | 17 => (24, [(17, .aload_n 0, 1, 0, 0, 0, .inl 0), (18, .invokevirtual 134, 3, 9, 1, 0, .inl 0), (21, .goto 114, 3, 135, 0, 0, .inl 0)])
  | 24 => (32, [(24, .aload_n 0, 1, 0, 0, 0, .inl 0), (25, .iconst 0, 1, 0, 0, 0, .inl (nI 0)), (26, .invokevirtual 162, 3, 12, 2, 0, .inl 0), (29, .ifCond .eq 13, 3, 42, 0, 0, .inl 0)])
  | 32 => (42, [(32, .aload_n 0, 1, 0, 0, 0, .inl 0), (33, .sipush 1100, 3, 0, 0, 0, .inl (nI 1100)), (36, .invokevirtual 159, 3, 19, 2, 0, .inl 0), (39, .goto 96, 3, 135, 0, 0, .inl 0)])
  | 42 => (81, [(42, .aload_n 0, 1, 0, 0, 0, .inl 0), (43, .getfield 125, 3, 0, 11, 0, .inl 0), (46, .ifCond .ne 42, 3, 88, 0, 0, .inl 0), (49, .aload_n 0, 1, 0, 0, 0, .inl 0), (50, .getfield 107, 3, 0, 9, 0, .inl 0), (53, .i2l, 1, 0, 0, 0, .inl 0), (54, .ldc2_w 165, 3, 0, 0, 0, .inr (.inl (lN 7))), (57, .ldc2_w 167, 3, 0, 0, 0, .inr (.inl (lN 14))), (60, .invokestatic 141, 3, 2, 3, 0, .inl 0), (63, .ifCond .eq 25, 3, 88, 0, 0, .inl 0), (66, .aload_n 0, 1, 0, 0, 0, .inl 0), (67, .sipush 1000, 3, 0, 0, 0, .inl (nI 1000)), (70, .aload_n 0, 1, 0, 0, 0, .inl 0), (71, .getfield 107, 3, 0, 9, 0, .inl 0), (74, .iadd, 1, 0, 0, 0, .inl 0), (75, .bipush 7, 2, 0, 0, 0, .inl (nI 7)), (77, .isub, 1, 0, 0, 0, .inl 0), (78, .invokevirtual 159, 3, 19, 2, 0, .inl 0)])
  | 81 => (88, [(81, .aload_n 0, 1, 0, 0, 0, .inl 0), (82, .invokevirtual 134, 3, 9, 1, 0, .inl 0), (85, .goto 50, 3, 135, 0, 0, .inl 0)])
  | 88 => (106, [(88, .aload_n 0, 1, 0, 0, 0, .inl 0), (89, .bipush 25, 2, 0, 0, 0, .inl (nI 25)), (91, .invokevirtual 131, 3, 11, 2, 0, .inl 0), (94, .ifCond .eq 36, 3, 130, 0, 0, .inl 0), (97, .aload_n 0, 1, 0, 0, 0, .inl 0), (98, .iload_n 1, 1, 1, 0, 0, .inl 0), (99, .invokevirtual 169, 3, 20, 2, 0, .inl 0), (102, .ifCond .ne 4, 3, 106, 0, 0, .inl 0), (105, .return_, 1, 0, 0, 0, .inl 0)])
  | 106 => (122, [(106, .aload_n 0, 1, 0, 0, 0, .inl 0), (107, .iload_n 1, 1, 1, 0, 0, .inl 0), (108, .iconst 1, 1, 0, 0, 0, .inl (nI 1)), (109, .iadd, 1, 0, 0, 0, .inl 0), (110, .invokevirtual 172, 3, 23, 2, 0, .inl 0), (113, .aload_n 0, 1, 0, 0, 0, .inl 0), (114, .bipush 26, 2, 0, 0, 0, .inl (nI 26)), (116, .invokevirtual 162, 3, 12, 2, 0, .inl 0), (119, .ifCond .ne 16, 3, 135, 0, 0, .inl 0)])
  | 122 => (130, [(122, .aload_n 0, 1, 0, 0, 0, .inl 0), (123, .iconst 2, 1, 0, 0, 0, .inl (nI 2)), (124, .invokevirtual 137, 3, 10, 2, 0, .inl 0), (127, .goto 8, 3, 135, 0, 0, .inl 0)])
  | 130 => (135, [(130, .aload_n 0, 1, 0, 0, 0, .inl 0), (131, .iconst 2, 1, 0, 0, 0, .inl (nI 2)), (132, .invokevirtual 137, 3, 10, 2, 0, .inl 0)])
  | 135 => (136, [(135, .return_, 1, 0, 0, 0, .inl 0)])
  | n => (n, [])
theorem ck_21 : ∀ pc, px_cks pn_i21 (bk_21 pc).1 pc (bk_21 pc).2 = true := by
  intro pc
  unfold bk_21
  split <;> first | decide +kernel | simp [px_cks]
/-- NoThreeModel.readTerm(I)V -/
def bk_22 : Nat → Nat × List px_E := fun pc => match pc with
  | 0 => (5, [(0, .aload_n 0, 1, 0, 0, 0, .inl 0), (1, .iload_n 1, 1, 1, 0, 0, .inl 0), (2, .invokevirtual 175, 3, 21, 2, 0, .inl 0)])
  | 5 => (29, [(5, .aload_n 0, 1, 0, 0, 0, .inl 0), (6, .bipush 24, 2, 0, 0, 0, .inl (nI 24)), (8, .invokevirtual 162, 3, 12, 2, 0, .inl 0), (11, .ifCond .eq 18, 3, 29, 0, 0, .inl 0), (14, .aload_n 0, 1, 0, 0, 0, .inl 0), (15, .iload_n 1, 1, 1, 0, 0, .inl 0), (16, .invokevirtual 175, 3, 21, 2, 0, .inl 0), (19, .aload_n 0, 1, 0, 0, 0, .inl 0), (20, .sipush 3002, 3, 0, 0, 0, .inl (nI 3002)), (23, .invokevirtual 159, 3, 19, 2, 0, .inl 0), (26, .goto (-21), 3, 5, 0, 0, .inl 0)])
  | 29 => (30, [(29, .return_, 1, 0, 0, 0, .inl 0)])
  | n => (n, [])
theorem ck_22 : ∀ pc, px_cks pn_i22 (bk_22 pc).1 pc (bk_22 pc).2 = true := by
  intro pc
  unfold bk_22
  split <;> first | decide +kernel | simp [px_cks]
/-- NoThreeModel.readSum(I)V -/
def bk_23 : Nat → Nat × List px_E := fun pc => match pc with
  | 0 => (5, [(0, .aload_n 0, 1, 0, 0, 0, .inl 0), (1, .iload_n 1, 1, 1, 0, 0, .inl 0), (2, .invokevirtual 178, 3, 22, 2, 0, .inl 0)])
  | 5 => (23, [(5, .aload_n 0, 1, 0, 0, 0, .inl 0), (6, .bipush 22, 2, 0, 0, 0, .inl (nI 22)), (8, .invokevirtual 131, 3, 11, 2, 0, .inl 0), (11, .ifCond .ne 12, 3, 23, 0, 0, .inl 0), (14, .aload_n 0, 1, 0, 0, 0, .inl 0), (15, .bipush 23, 2, 0, 0, 0, .inl (nI 23)), (17, .invokevirtual 131, 3, 11, 2, 0, .inl 0), (20, .ifCond .eq 39, 3, 59, 0, 0, .inl 0)])
  | 23 => (38, [(23, .aload_n 0, 1, 0, 0, 0, .inl 0), (24, .getfield 107, 3, 0, 9, 0, .inl 0), (27, .bipush 22, 2, 0, 0, 0, .inl (nI 22)), (29, .if_icmp .ne 9, 3, 38, 0, 0, .inl 0), (32, .sipush 3000, 3, 0, 0, 0, .inl (nI 3000)), (35, .goto 6, 3, 41, 0, 0, .inl 0)])
  | 38 => (41, [(38, .sipush 3001, 3, 0, 0, 0, .inl (nI 3001))])
  | 41 => (59, [(41, .istore_n 2, 1, 2, 0, 0, .inl 0), (42, .aload_n 0, 1, 0, 0, 0, .inl 0), (43, .invokevirtual 134, 3, 9, 1, 0, .inl 0), (46, .aload_n 0, 1, 0, 0, 0, .inl 0), (47, .iload_n 1, 1, 1, 0, 0, .inl 0), (48, .invokevirtual 178, 3, 22, 2, 0, .inl 0), (51, .aload_n 0, 1, 0, 0, 0, .inl 0), (52, .iload_n 2, 1, 2, 0, 0, .inl 0), (53, .invokevirtual 159, 3, 19, 2, 0, .inl 0), (56, .goto (-51), 3, 5, 0, 0, .inl 0)])
  | 59 => (60, [(59, .return_, 1, 0, 0, 0, .inl 0)])
  | n => (n, [])
theorem ck_23 : ∀ pc, px_cks pn_i23 (bk_23 pc).1 pc (bk_23 pc).2 = true := by
  intro pc
  unfold bk_23
  split <;> first | decide +kernel | simp [px_cks]
/-- NoThreeModel.readUnit(I)V -/
def bk_24 : Nat → Nat × List px_E := fun pc => match pc with
  | 0 => (18, [(0, .aload_n 0, 1, 0, 0, 0, .inl 0), (1, .bipush 6, 2, 0, 0, 0, .inl (nI 6)), (3, .invokevirtual 131, 3, 11, 2, 0, .inl 0), (6, .ifCond .eq 27, 3, 33, 0, 0, .inl 0), (9, .aload_n 0, 1, 0, 0, 0, .inl 0), (10, .iload_n 1, 1, 1, 0, 0, .inl 0), (11, .invokevirtual 169, 3, 20, 2, 0, .inl 0), (14, .ifCond .ne 4, 3, 18, 0, 0, .inl 0), (17, .return_, 1, 0, 0, 0, .inl 0)])
  | 18 => (25, [(18, .aload_n 0, 1, 0, 0, 0, .inl 0), (19, .iload_n 1, 1, 1, 0, 0, .inl 0), (20, .iconst 1, 1, 0, 0, 0, .inl (nI 1)), (21, .iadd, 1, 0, 0, 0, .inl 0), (22, .invokevirtual 181, 3, 24, 2, 0, .inl 0)])
  | 25 => (33, [(25, .aload_n 0, 1, 0, 0, 0, .inl 0), (26, .sipush 3008, 3, 0, 0, 0, .inl (nI 3008)), (29, .invokevirtual 159, 3, 19, 2, 0, .inl 0), (32, .return_, 1, 0, 0, 0, .inl 0)])
  | 33 => (51, [(33, .aload_n 0, 1, 0, 0, 0, .inl 0), (34, .bipush 27, 2, 0, 0, 0, .inl (nI 27)), (36, .invokevirtual 131, 3, 11, 2, 0, .inl 0), (39, .ifCond .eq 34, 3, 73, 0, 0, .inl 0), (42, .aload_n 0, 1, 0, 0, 0, .inl 0), (43, .iload_n 1, 1, 1, 0, 0, .inl 0), (44, .invokevirtual 169, 3, 20, 2, 0, .inl 0), (47, .ifCond .ne 4, 3, 51, 0, 0, .inl 0), (50, .return_, 1, 0, 0, 0, .inl 0)])
  | 51 => (72, [(51, .aload_n 0, 1, 0, 0, 0, .inl 0), (52, .iload_n 1, 1, 1, 0, 0, .inl 0), (53, .iconst 1, 1, 0, 0, 0, .inl (nI 1)), (54, .iadd, 1, 0, 0, 0, .inl 0), (55, .invokevirtual 184, 3, 26, 2, 0, .inl 0), (58, .aload_n 0, 1, 0, 0, 0, .inl 0), (59, .bipush 28, 2, 0, 0, 0, .inl (nI 28)), (61, .invokevirtual 162, 3, 12, 2, 0, .inl 0), (64, .ifCond .ne 8, 3, 72, 0, 0, .inl 0), (67, .aload_n 0, 1, 0, 0, 0, .inl 0), (68, .iconst 2, 1, 0, 0, 0, .inl (nI 2)), (69, .invokevirtual 137, 3, 10, 2, 0, .inl 0)])
  | 72 => (73, [(72, .return_, 1, 0, 0, 0, .inl 0)])
  | 73 => (78, [(73, .aload_n 0, 1, 0, 0, 0, .inl 0), (74, .iload_n 1, 1, 1, 0, 0, .inl 0), (75, .invokevirtual 172, 3, 23, 2, 0, .inl 0)])
  | 78 => (93, [(78, .aload_n 0, 1, 0, 0, 0, .inl 0), (79, .bipush 29, 2, 0, 0, 0, .inl (nI 29)), (81, .invokevirtual 131, 3, 11, 2, 0, .inl 0), (84, .ifCond .eq 9, 3, 93, 0, 0, .inl 0), (87, .sipush 3003, 3, 0, 0, 0, .inl (nI 3003)), (90, .goto 21, 3, 111, 0, 0, .inl 0)])
  | 93 => (108, [(93, .aload_n 0, 1, 0, 0, 0, .inl 0), (94, .bipush 30, 2, 0, 0, 0, .inl (nI 30)), (96, .invokevirtual 131, 3, 11, 2, 0, .inl 0), (99, .ifCond .eq 9, 3, 108, 0, 0, .inl 0), (102, .sipush 3004, 3, 0, 0, 0, .inl (nI 3004)), (105, .goto 6, 3, 111, 0, 0, .inl 0)])
  | 108 => (111, [(108, .sipush 3005, 3, 0, 0, 0, .inl (nI 3005))])
  | 111 => (112, [(111, .istore_n 2, 1, 2, 0, 0, .inl 0)])
  | 112 => (139, [(112, .aload_n 0, 1, 0, 0, 0, .inl 0), (113, .bipush 29, 2, 0, 0, 0, .inl (nI 29)), (115, .invokevirtual 131, 3, 11, 2, 0, .inl 0), (118, .ifCond .ne 21, 3, 139, 0, 0, .inl 0), (121, .aload_n 0, 1, 0, 0, 0, .inl 0), (122, .bipush 30, 2, 0, 0, 0, .inl (nI 30)), (124, .invokevirtual 131, 3, 11, 2, 0, .inl 0), (127, .ifCond .ne 12, 3, 139, 0, 0, .inl 0), (130, .aload_n 0, 1, 0, 0, 0, .inl 0), (131, .bipush 31, 2, 0, 0, 0, .inl (nI 31)), (133, .invokevirtual 131, 3, 11, 2, 0, .inl 0), (136, .ifCond .eq 10, 3, 146, 0, 0, .inl 0)])
  | 139 => (146, [(139, .aload_n 0, 1, 0, 0, 0, .inl 0), (140, .invokevirtual 134, 3, 9, 1, 0, .inl 0), (143, .goto 8, 3, 151, 0, 0, .inl 0)])
  | 146 => (151, [(146, .aload_n 0, 1, 0, 0, 0, .inl 0), (147, .iconst 2, 1, 0, 0, 0, .inl (nI 2)), (148, .invokevirtual 137, 3, 10, 2, 0, .inl 0)])
  | 151 => (162, [(151, .aload_n 0, 1, 0, 0, 0, .inl 0), (152, .iload_n 1, 1, 1, 0, 0, .inl 0), (153, .invokevirtual 172, 3, 23, 2, 0, .inl 0), (156, .aload_n 0, 1, 0, 0, 0, .inl 0), (157, .iload_n 2, 1, 2, 0, 0, .inl 0), (158, .invokevirtual 159, 3, 19, 2, 0, .inl 0), (161, .return_, 1, 0, 0, 0, .inl 0)])
  | n => (n, [])
theorem ck_24 : ∀ pc, px_cks pn_i24 (bk_24 pc).1 pc (bk_24 pc).2 = true := by
  intro pc
  unfold bk_24
  split <;> first | decide +kernel | simp [px_cks]
/-- NoThreeModel.readBoth(I)V -/
def bk_25 : Nat → Nat × List px_E := fun pc => match pc with
  | 0 => (5, [(0, .aload_n 0, 1, 0, 0, 0, .inl 0), (1, .iload_n 1, 1, 1, 0, 0, .inl 0), (2, .invokevirtual 181, 3, 24, 2, 0, .inl 0)])
  | 5 => (28, [(5, .aload_n 0, 1, 0, 0, 0, .inl 0), (6, .iconst 5, 1, 0, 0, 0, .inl (nI 5)), (7, .invokevirtual 162, 3, 12, 2, 0, .inl 0), (10, .ifCond .eq 18, 3, 28, 0, 0, .inl 0), (13, .aload_n 0, 1, 0, 0, 0, .inl 0), (14, .iload_n 1, 1, 1, 0, 0, .inl 0), (15, .invokevirtual 181, 3, 24, 2, 0, .inl 0), (18, .aload_n 0, 1, 0, 0, 0, .inl 0), (19, .sipush 3006, 3, 0, 0, 0, .inl (nI 3006)), (22, .invokevirtual 159, 3, 19, 2, 0, .inl 0), (25, .goto (-20), 3, 5, 0, 0, .inl 0)])
  | 28 => (29, [(28, .return_, 1, 0, 0, 0, .inl 0)])
  | n => (n, [])
theorem ck_25 : ∀ pc, px_cks pn_i25 (bk_25 pc).1 pc (bk_25 pc).2 = true := by
  intro pc
  unfold bk_25
  split <;> first | decide +kernel | simp [px_cks]
/-- NoThreeModel.readTruth(I)V -/
def bk_26 : Nat → Nat × List px_E := fun pc => match pc with
  | 0 => (5, [(0, .aload_n 0, 1, 0, 0, 0, .inl 0), (1, .iload_n 1, 1, 1, 0, 0, .inl 0), (2, .invokevirtual 187, 3, 25, 2, 0, .inl 0)])
  | 5 => (28, [(5, .aload_n 0, 1, 0, 0, 0, .inl 0), (6, .iconst 4, 1, 0, 0, 0, .inl (nI 4)), (7, .invokevirtual 162, 3, 12, 2, 0, .inl 0), (10, .ifCond .eq 18, 3, 28, 0, 0, .inl 0), (13, .aload_n 0, 1, 0, 0, 0, .inl 0), (14, .iload_n 1, 1, 1, 0, 0, .inl 0), (15, .invokevirtual 187, 3, 25, 2, 0, .inl 0), (18, .aload_n 0, 1, 0, 0, 0, .inl 0), (19, .sipush 3007, 3, 0, 0, 0, .inl (nI 3007)), (22, .invokevirtual 159, 3, 19, 2, 0, .inl 0), (25, .goto (-20), 3, 5, 0, 0, .inl 0)])
  | 28 => (29, [(28, .return_, 1, 0, 0, 0, .inl 0)])
  | n => (n, [])
theorem ck_26 : ∀ pc, px_cks pn_i26 (bk_26 pc).1 pc (bk_26 pc).2 = true := by
  intro pc
  unfold bk_26
  split <;> first | decide +kernel | simp [px_cks]
/-- NoThreeModel.readRule()V -/
def bk_27 : Nat → Nat × List px_E := fun pc => match pc with
  | 0 => (20, [(0, .aload_n 0, 1, 0, 0, 0, .inl 0), (1, .getfield 24, 3, 0, 4, 2, .inl 0), (4, .sipush 158, 3, 0, 0, 0, .inl (nI 158)), (7, .iaload, 1, 0, 0, 0, .inl 0), (8, .istore_n 1, 1, 1, 0, 0, .inl 0), (9, .iload_n 1, 1, 1, 0, 0, .inl 0), (10, .bipush 6, 2, 0, 0, 0, .inl (nI 6)), (12, .if_icmp .ne 8, 3, 20, 0, 0, .inl 0), (15, .aload_n 0, 1, 0, 0, 0, .inl 0), (16, .iconst 4, 1, 0, 0, 0, .inl (nI 4)), (17, .invokevirtual 137, 3, 10, 2, 0, .inl 0)])
  | 20 => (28, [(20, .aload_n 0, 1, 0, 0, 0, .inl 0), (21, .getfield 125, 3, 0, 11, 0, .inl 0), (24, .ifCond .eq 4, 3, 28, 0, 0, .inl 0), (27, .return_, 1, 0, 0, 0, .inl 0)])
  | 28 => (46, [(28, .aload_n 0, 1, 0, 0, 0, .inl 0), (29, .invokevirtual 134, 3, 9, 1, 0, .inl 0), (32, .aload_n 0, 1, 0, 0, 0, .inl 0), (33, .bipush 21, 2, 0, 0, 0, .inl (nI 21)), (35, .invokevirtual 162, 3, 12, 2, 0, .inl 0), (38, .ifCond .ne 8, 3, 46, 0, 0, .inl 0), (41, .aload_n 0, 1, 0, 0, 0, .inl 0), (42, .iconst 2, 1, 0, 0, 0, .inl (nI 2)), (43, .invokevirtual 137, 3, 10, 2, 0, .inl 0)])
  | 46 => (68, [(46, .aload_n 0, 1, 0, 0, 0, .inl 0), (47, .getfield 24, 3, 0, 4, 2, .inl 0), (50, .sipush 171, 3, 0, 0, 0, .inl (nI 171)), (53, .iaload, 1, 0, 0, 0, .inl 0), (54, .istore_n 2, 1, 2, 0, 0, .inl 0), (55, .aload_n 0, 1, 0, 0, 0, .inl 0), (56, .iconst 0, 1, 0, 0, 0, .inl (nI 0)), (57, .invokevirtual 184, 3, 26, 2, 0, .inl 0), (60, .aload_n 0, 1, 0, 0, 0, .inl 0), (61, .getfield 125, 3, 0, 11, 0, .inl 0), (64, .ifCond .eq 4, 3, 68, 0, 0, .inl 0), (67, .return_, 1, 0, 0, 0, .inl 0)])
  | 68 => (79, [(68, .aload_n 0, 1, 0, 0, 0, .inl 0), (69, .getfield 24, 3, 0, 4, 2, .inl 0), (72, .sipush 159, 3, 0, 0, 0, .inl (nI 159)), (75, .iload_n 1, 1, 1, 0, 0, .inl 0), (76, .iadd, 1, 0, 0, 0, .inl 0), (77, .iload_n 2, 1, 2, 0, 0, .inl 0), (78, .iastore, 1, 0, 0, 0, .inl 0)])
  | 79 => (112, [(79, .aload_n 0, 1, 0, 0, 0, .inl 0), (80, .getfield 24, 3, 0, 4, 2, .inl 0), (83, .sipush 165, 3, 0, 0, 0, .inl (nI 165)), (86, .iload_n 1, 1, 1, 0, 0, .inl 0), (87, .iadd, 1, 0, 0, 0, .inl 0), (88, .aload_n 0, 1, 0, 0, 0, .inl 0), (89, .getfield 24, 3, 0, 4, 2, .inl 0), (92, .sipush 171, 3, 0, 0, 0, .inl (nI 171)), (95, .iaload, 1, 0, 0, 0, .inl 0), (96, .iload_n 2, 1, 2, 0, 0, .inl 0), (97, .isub, 1, 0, 0, 0, .inl 0), (98, .iastore, 1, 0, 0, 0, .inl 0), (99, .aload_n 0, 1, 0, 0, 0, .inl 0), (100, .getfield 24, 3, 0, 4, 2, .inl 0), (103, .sipush 158, 3, 0, 0, 0, .inl (nI 158)), (106, .dup2, 1, 0, 0, 0, .inl 0), (107, .iaload, 1, 0, 0, 0, .inl 0), (108, .iconst 1, 1, 0, 0, 0, .inl (nI 1)), (109, .iadd, 1, 0, 0, 0, .inl 0), (110, .iastore, 1, 0, 0, 0, .inl 0), (111, .return_, 1, 0, 0, 0, .inl 0)])
  | n => (n, [])
theorem ck_27 : ∀ pc, px_cks pn_i27 (bk_27 pc).1 pc (bk_27 pc).2 = true := by
  intro pc
  unfold bk_27
  split <;> first | decide +kernel | simp [px_cks]
/-- NoThreeModel.town(I)I -/
def bk_28 : Nat → Nat × List px_E := fun pc => match pc with
  | 0 => (19, [(0, .aload_n 0, 1, 0, 0, 0, .inl 0), (1, .iconst 0, 1, 0, 0, 0, .inl (nI 0)), (2, .putfield 1, 3, 0, 0, 0, .inl 0), (5, .iload_n 1, 1, 1, 0, 0, .inl 0), (6, .i2l, 1, 0, 0, 0, .inl 0), (7, .lconst 0, 1, 0, 0, 0, .inr (.inl (lN 0))), (8, .aload_n 0, 1, 0, 0, 0, .inl 0), (9, .getfield 79, 3, 0, 5, 0, .inl 0), (12, .i2l, 1, 0, 0, 0, .inl 0), (13, .invokestatic 141, 3, 2, 3, 0, .inl 0), (16, .ifCond .ne 6, 3, 22, 0, 0, .inl 0)])
  | 19 => (22, [(19, .bipush (-3), 2, 0, 0, 0, .inl (-3)), (21, .ireturn, 1, 0, 0, 0, .inl 0)])
  | 22 => (44, [(22, .aload_n 0, 1, 0, 0, 0, .inl 0), (23, .iload_n 1, 1, 1, 0, 0, .inl 0), (24, .putfield 82, 3, 0, 8, 0, .inl 0), (27, .aload_n 0, 1, 0, 0, 0, .inl 0), (28, .iconst 0, 1, 0, 0, 0, .inl (nI 0)), (29, .putfield 79, 3, 0, 5, 0, .inl 0), (32, .aload_n 0, 1, 0, 0, 0, .inl 0), (33, .iconst 0, 1, 0, 0, 0, .inl (nI 0)), (34, .putfield 100, 3, 0, 7, 0, .inl 0), (37, .aload_n 0, 1, 0, 0, 0, .inl 0), (38, .iconst 0, 1, 0, 0, 0, .inl (nI 0)), (39, .putfield 125, 3, 0, 11, 0, .inl 0), (42, .iconst 0, 1, 0, 0, 0, .inl (nI 0)), (43, .istore_n 2, 1, 2, 0, 0, .inl 0)])
  | 44 => (64, [(44, .iload_n 2, 1, 2, 0, 0, .inl 0), (45, .sipush 1072, 3, 0, 0, 0, .inl (nI 1072)), (48, .if_icmp .ge 16, 3, 64, 0, 0, .inl 0), (51, .aload_n 0, 1, 0, 0, 0, .inl 0), (52, .getfield 24, 3, 0, 4, 2, .inl 0), (55, .iload_n 2, 1, 2, 0, 0, .inl 0), (56, .iconst 0, 1, 0, 0, 0, .inl (nI 0)), (57, .iastore, 1, 0, 0, 0, .inl 0), (58, .iinc 2 1, 3, 2, 0, 0, .inl (nI 1)), (61, .goto (-17), 3, 44, 0, 0, .inl 0)])
  | 64 => (68, [(64, .aload_n 0, 1, 0, 0, 0, .inl 0), (65, .invokevirtual 134, 3, 9, 1, 0, .inl 0)])
  | 68 => (92, [(68, .aload_n 0, 1, 0, 0, 0, .inl 0), (69, .getfield 125, 3, 0, 11, 0, .inl 0), (72, .ifCond .ne 104, 3, 176, 0, 0, .inl 0), (75, .aload_n 0, 1, 0, 0, 0, .inl 0), (76, .getfield 107, 3, 0, 9, 0, .inl 0), (79, .bipush 17, 2, 0, 0, 0, .inl (nI 17)), (81, .if_icmp .eq 95, 3, 176, 0, 0, .inl 0), (84, .aload_n 0, 1, 0, 0, 0, .inl 0), (85, .iconst 0, 1, 0, 0, 0, .inl (nI 0)), (86, .invokevirtual 162, 3, 12, 2, 0, .inl 0), (89, .ifCond .eq 10, 3, 99, 0, 0, .inl 0)])
  | 92 => (99, [(92, .aload_n 0, 1, 0, 0, 0, .inl 0), (93, .invokevirtual 190, 3, 16, 1, 0, .inl 0), (96, .goto 53, 3, 149, 0, 0, .inl 0)])
  | 99 => (114, [(99, .aload_n 0, 1, 0, 0, 0, .inl 0), (100, .iconst 1, 1, 0, 0, 0, .inl (nI 1)), (101, .invokevirtual 162, 3, 12, 2, 0, .inl 0), (104, .ifCond .eq 10, 3, 114, 0, 0, .inl 0), (107, .aload_n 0, 1, 0, 0, 0, .inl 0), (108, .invokevirtual 193, 3, 17, 1, 0, .inl 0), (111, .goto 38, 3, 149, 0, 0, .inl 0)])
  | 114 => (122, [(114, .aload_n 0, 1, 0, 0, 0, .inl 0), (115, .iconst 2, 1, 0, 0, 0, .inl (nI 2)), (116, .invokevirtual 162, 3, 12, 2, 0, .inl 0), (119, .ifCond .eq 10, 3, 129, 0, 0, .inl 0)])
  | 122 => (129, [(122, .aload_n 0, 1, 0, 0, 0, .inl 0), (123, .invokevirtual 196, 3, 18, 1, 0, .inl 0), (126, .goto 23, 3, 149, 0, 0, .inl 0)])
  | 129 => (144, [(129, .aload_n 0, 1, 0, 0, 0, .inl 0), (130, .iconst 3, 1, 0, 0, 0, .inl (nI 3)), (131, .invokevirtual 131, 3, 11, 2, 0, .inl 0), (134, .ifCond .eq 10, 3, 144, 0, 0, .inl 0), (137, .aload_n 0, 1, 0, 0, 0, .inl 0), (138, .invokevirtual 199, 3, 27, 1, 0, .inl 0), (141, .goto 8, 3, 149, 0, 0, .inl 0)])
  | 144 => (149, [(144, .aload_n 0, 1, 0, 0, 0, .inl 0), (145, .iconst 2, 1, 0, 0, 0, .inl (nI 2)), (146, .invokevirtual 137, 3, 10, 2, 0, .inl 0)])
  | 149 => (163, [(149, .aload_n 0, 1, 0, 0, 0, .inl 0), (150, .bipush 20, 2, 0, 0, 0, .inl (nI 20)), (152, .invokevirtual 162, 3, 12, 2, 0, .inl 0), (155, .ifCond .ne 8, 3, 163, 0, 0, .inl 0), (158, .aload_n 0, 1, 0, 0, 0, .inl 0), (159, .iconst 2, 1, 0, 0, 0, .inl (nI 2)), (160, .invokevirtual 137, 3, 10, 2, 0, .inl 0)])
  | 163 => (176, [(163, .aload_n 0, 1, 0, 0, 0, .inl 0), (164, .getfield 24, 3, 0, 4, 2, .inl 0), (167, .iconst 0, 1, 0, 0, 0, .inl (nI 0)), (168, .dup2, 1, 0, 0, 0, .inl 0), (169, .iaload, 1, 0, 0, 0, .inl 0), (170, .iconst 1, 1, 0, 0, 0, .inl (nI 1)), (171, .iadd, 1, 0, 0, 0, .inl 0), (172, .iastore, 1, 0, 0, 0, .inl 0), (173, .goto (-105), 3, 68, 0, 0, .inl 0)])
  | 176 => (196, [(176, .aload_n 0, 1, 0, 0, 0, .inl 0), (177, .aload_n 0, 1, 0, 0, 0, .inl 0), (178, .getfield 125, 3, 0, 11, 0, .inl 0), (181, .putfield 202, 3, 0, 13, 0, .inl 0), (184, .aload_n 0, 1, 0, 0, 0, .inl 0), (185, .aload_n 0, 1, 0, 0, 0, .inl 0), (186, .getfield 125, 3, 0, 11, 0, .inl 0), (189, .ifCond .ne 7, 3, 196, 0, 0, .inl 0), (192, .iconst (-1), 1, 0, 0, 0, .inl (-1)), (193, .goto 7, 3, 200, 0, 0, .inl 0)])
  | 196 => (200, [(196, .aload_n 0, 1, 0, 0, 0, .inl 0), (197, .getfield 128, 3, 0, 12, 0, .inl 0)])
  | 200 => (203, [(200, .putfield 27, 3, 0, 14, 0, .inl 0)])
  | 203 => (218, [(203, .aload_n 0, 1, 0, 0, 0, .inl 0), (204, .getfield 125, 3, 0, 11, 0, .inl 0), (207, .ifCond .eq 11, 3, 218, 0, 0, .inl 0), (210, .bipush (-30), 2, 0, 0, 0, .inl (-30)), (212, .aload_n 0, 1, 0, 0, 0, .inl 0), (213, .getfield 125, 3, 0, 11, 0, .inl 0), (216, .isub, 1, 0, 0, 0, .inl 0), (217, .ireturn, 1, 0, 0, 0, .inl 0)])
  | 218 => (220, [(218, .iconst 0, 1, 0, 0, 0, .inl (nI 0)), (219, .istore_n 2, 1, 2, 0, 0, .inl 0)])
  | 220 => (245, [(220, .iload_n 2, 1, 2, 0, 0, .inl 0), (221, .sipush 1072, 3, 0, 0, 0, .inl (nI 1072)), (224, .if_icmp .ge 21, 3, 245, 0, 0, .inl 0), (227, .aload_n 0, 1, 0, 0, 0, .inl 0), (228, .getfield 13, 3, 0, 1, 2, .inl 0), (231, .iload_n 2, 1, 2, 0, 0, .inl 0), (232, .aload_n 0, 1, 0, 0, 0, .inl 0), (233, .getfield 24, 3, 0, 4, 2, .inl 0), (236, .iload_n 2, 1, 2, 0, 0, .inl 0), (237, .iaload, 1, 0, 0, 0, .inl 0), (238, .iastore, 1, 0, 0, 0, .inl 0), (239, .iinc 2 1, 3, 2, 0, 0, .inl (nI 1)), (242, .goto (-22), 3, 220, 0, 0, .inl 0)])
  | 245 => (252, [(245, .aload_n 0, 1, 0, 0, 0, .inl 0), (246, .getfield 13, 3, 0, 1, 2, .inl 0), (249, .iconst 0, 1, 0, 0, 0, .inl (nI 0)), (250, .iaload, 1, 0, 0, 0, .inl 0), (251, .ireturn, 1, 0, 0, 0, .inl 0)])
  | n => (n, [])
theorem ck_28 : ∀ pc, px_cks pn_i28 (bk_28 pc).1 pc (bk_28 pc).2 = true := by
  intro pc
  unfold bk_28
  split <;> first | decide +kernel | simp [px_cks]
/-- NoThreeModel.fault(I)I -/
def bk_29 : Nat → Nat × List px_E := fun pc => match pc with
  | 0 => (16, [(0, .aload_n 0, 1, 0, 0, 0, .inl 0), (1, .iconst 0, 1, 0, 0, 0, .inl (nI 0)), (2, .putfield 1, 3, 0, 0, 0, .inl 0), (5, .iload_n 1, 1, 1, 0, 0, .inl 0), (6, .ifCond .ne 10, 3, 16, 0, 0, .inl 0), (9, .aload_n 0, 1, 0, 0, 0, .inl 0), (10, .getfield 202, 3, 0, 13, 0, .inl 0), (13, .goto 16, 3, 29, 0, 0, .inl 0)])
  | 16 => (28, [(16, .iload_n 1, 1, 1, 0, 0, .inl 0), (17, .iconst 1, 1, 0, 0, 0, .inl (nI 1)), (18, .if_icmp .ne 10, 3, 28, 0, 0, .inl 0), (21, .aload_n 0, 1, 0, 0, 0, .inl 0), (22, .getfield 27, 3, 0, 14, 0, .inl 0), (25, .goto 4, 3, 29, 0, 0, .inl 0)])
  | 28 => (29, [(28, .iconst (-1), 1, 0, 0, 0, .inl (-1))])
  | 29 => (30, [(29, .ireturn, 1, 0, 0, 0, .inl 0)])
  | n => (n, [])
theorem ck_29 : ∀ pc, px_cks pn_i29 (bk_29 pc).1 pc (bk_29 pc).2 = true := by
  intro pc
  unfold bk_29
  split <;> first | decide +kernel | simp [px_cks]
/-- NoThreeModel.isHouse(J)Z -/
def bk_30 : Nat → Nat × List px_E := fun pc => match pc with
  | 0 => (15, [(0, .lload_n 1, 1, 1, 0, 0, .inl 0), (1, .lconst 0, 1, 0, 0, 0, .inr (.inl (lN 0))), (2, .aload_n 0, 1, 0, 0, 0, .inl 0), (3, .getfield 13, 3, 0, 1, 2, .inl 0), (6, .iconst 1, 1, 0, 0, 0, .inl (nI 1)), (7, .iaload, 1, 0, 0, 0, .inl 0), (8, .iconst 1, 1, 0, 0, 0, .inl (nI 1)), (9, .isub, 1, 0, 0, 0, .inl 0), (10, .i2l, 1, 0, 0, 0, .inl 0), (11, .invokestatic 141, 3, 2, 3, 0, .inl 0), (14, .ireturn, 1, 0, 0, 0, .inl 0)])
  | n => (n, [])
theorem ck_30 : ∀ pc, px_cks pn_i30 (bk_30 pc).1 pc (bk_30 pc).2 = true := by
  intro pc
  unfold bk_30
  split <;> first | decide +kernel | simp [px_cks]
/-- NoThreeModel.near(I)I -/
def bk_31 : Nat → Nat × List px_E := fun pc => match pc with
  | 0 => (9, [(0, .aload_n 0, 1, 0, 0, 0, .inl 0), (1, .getfield 13, 3, 0, 1, 2, .inl 0), (4, .iconst 2, 1, 0, 0, 0, .inl (nI 2)), (5, .iload_n 1, 1, 1, 0, 0, .inl 0), (6, .iadd, 1, 0, 0, 0, .inl 0), (7, .iaload, 1, 0, 0, 0, .inl 0), (8, .ireturn, 1, 0, 0, 0, .inl 0)])
  | n => (n, [])
theorem ck_31 : ∀ pc, px_cks pn_i31 (bk_31 pc).1 pc (bk_31 pc).2 = true := by
  intro pc
  unfold bk_31
  split <;> first | decide +kernel | simp [px_cks]
/-- NoThreeModel.bitsOf(I)I -/
def bk_32 : Nat → Nat × List px_E := fun pc => match pc with
  | 0 => (4, [(0, .iconst 0, 1, 0, 0, 0, .inl (nI 0)), (1, .istore_n 1, 1, 1, 0, 0, .inl 0), (2, .iconst 0, 1, 0, 0, 0, .inl (nI 0)), (3, .istore_n 2, 1, 2, 0, 0, .inl 0)])
  | 4 => (18, [(4, .iload_n 2, 1, 2, 0, 0, .inl 0), (5, .bipush 11, 2, 0, 0, 0, .inl (nI 11)), (7, .if_icmp .ge 17, 3, 24, 0, 0, .inl 0), (10, .iload_n 1, 1, 1, 0, 0, .inl 0), (11, .iload_n 0, 1, 0, 0, 0, .inl 0), (12, .iload_n 2, 1, 2, 0, 0, .inl 0), (13, .ishr, 1, 0, 0, 0, .inl 0), (14, .iconst 1, 1, 0, 0, 0, .inl (nI 1)), (15, .iand, 1, 0, 0, 0, .inl 0), (16, .iadd, 1, 0, 0, 0, .inl 0), (17, .istore_n 1, 1, 1, 0, 0, .inl 0)])
  | 18 => (24, [(18, .iinc 2 1, 3, 2, 0, 0, .inl (nI 1)), (21, .goto (-17), 3, 4, 0, 0, .inl 0)])
  | 24 => (26, [(24, .iload_n 1, 1, 1, 0, 0, .inl 0), (25, .ireturn, 1, 0, 0, 0, .inl 0)])
  | n => (n, [])
theorem ck_32 : ∀ pc, px_cks pn_i32 (bk_32 pc).1 pc (bk_32 pc).2 = true := by
  intro pc
  unfold bk_32
  split <;> first | decide +kernel | simp [px_cks]
/-- NoThreeModel.threesOf(I)I -/
def bk_33 : Nat → Nat × List px_E := fun pc => match pc with
  | 0 => (4, [(0, .iconst 0, 1, 0, 0, 0, .inl (nI 0)), (1, .istore_n 2, 1, 2, 0, 0, .inl 0), (2, .iconst 0, 1, 0, 0, 0, .inl (nI 0)), (3, .istore_n 3, 1, 3, 0, 0, .inl 0)])
  | 4 => (27, [(4, .iload_n 3, 1, 3, 0, 0, .inl 0), (5, .aload_n 0, 1, 0, 0, 0, .inl 0), (6, .getfield 13, 3, 0, 1, 2, .inl 0), (9, .iconst 1, 1, 0, 0, 0, .inl (nI 1)), (10, .iaload, 1, 0, 0, 0, .inl 0), (11, .if_icmp .ge 39, 3, 50, 0, 0, .inl 0), (14, .aload_n 0, 1, 0, 0, 0, .inl 0), (15, .iload_n 1, 1, 1, 0, 0, .inl 0), (16, .invokevirtual 205, 3, 31, 2, 0, .inl 0), (19, .i2l, 1, 0, 0, 0, .inl 0), (20, .iload_n 3, 1, 3, 0, 0, .inl 0), (21, .invokestatic 151, 3, 14, 2, 0, .inl 0), (24, .ifCond .eq 20, 3, 44, 0, 0, .inl 0)])
  | 27 => (44, [(27, .iload_n 2, 1, 2, 0, 0, .inl 0), (28, .aload_n 0, 1, 0, 0, 0, .inl 0), (29, .iload_n 1, 1, 1, 0, 0, .inl 0), (30, .invokevirtual 205, 3, 31, 2, 0, .inl 0), (33, .aload_n 0, 1, 0, 0, 0, .inl 0), (34, .iload_n 3, 1, 3, 0, 0, .inl 0), (35, .invokevirtual 205, 3, 31, 2, 0, .inl 0), (38, .iand, 1, 0, 0, 0, .inl 0), (39, .invokestatic 208, 3, 32, 1, 0, .inl 0), (42, .iadd, 1, 0, 0, 0, .inl 0), (43, .istore_n 2, 1, 2, 0, 0, .inl 0)])
  | 44 => (50, [(44, .iinc 3 1, 3, 3, 0, 0, .inl (nI 1)), (47, .goto (-43), 3, 4, 0, 0, .inl 0)])
  | 50 => (54, [(50, .iload_n 2, 1, 2, 0, 0, .inl 0), (51, .iconst 2, 1, 0, 0, 0, .inl (nI 2)), (52, .idiv, 1, 0, 0, 0, .inl 0), (53, .ireturn, 1, 0, 0, 0, .inl 0)])
  | n => (n, [])
theorem ck_33 : ∀ pc, px_cks pn_i33 (bk_33 pc).1 pc (bk_33 pc).2 = true := by
  intro pc
  unfold bk_33
  split <;> first | decide +kernel | simp [px_cks]
/-- NoThreeModel.foursOf(I)I -/
def bk_34 : Nat → Nat × List px_E := fun pc => match pc with
  | 0 => (4, [(0, .iconst 0, 1, 0, 0, 0, .inl (nI 0)), (1, .istore_n 2, 1, 2, 0, 0, .inl 0), (2, .iconst 0, 1, 0, 0, 0, .inl (nI 0)), (3, .istore_n 3, 1, 3, 0, 0, .inl 0)])
  | 4 => (22, [(4, .iload_n 3, 1, 3, 0, 0, .inl 0), (5, .aload_n 0, 1, 0, 0, 0, .inl 0), (6, .getfield 13, 3, 0, 1, 2, .inl 0), (9, .iconst 1, 1, 0, 0, 0, .inl (nI 1)), (10, .iaload, 1, 0, 0, 0, .inl 0), (11, .if_icmp .ge 45, 3, 56, 0, 0, .inl 0), (14, .iload_n 3, 1, 3, 0, 0, .inl 0), (15, .iload_n 1, 1, 1, 0, 0, .inl 0), (16, .if_icmp .ne 6, 3, 22, 0, 0, .inl 0), (19, .goto 31, 3, 50, 0, 0, .inl 0)])
  | 22 => (38, [(22, .aload_n 0, 1, 0, 0, 0, .inl 0), (23, .iload_n 1, 1, 1, 0, 0, .inl 0), (24, .invokevirtual 205, 3, 31, 2, 0, .inl 0), (27, .aload_n 0, 1, 0, 0, 0, .inl 0), (28, .iload_n 3, 1, 3, 0, 0, .inl 0), (29, .invokevirtual 205, 3, 31, 2, 0, .inl 0), (32, .iand, 1, 0, 0, 0, .inl 0), (33, .invokestatic 208, 3, 32, 1, 0, .inl 0), (36, .istore 4, 2, 4, 0, 0, .inl 0)])
  | 38 => (50, [(38, .iload_n 2, 1, 2, 0, 0, .inl 0), (39, .iload 4, 2, 4, 0, 0, .inl 0), (41, .iload 4, 2, 4, 0, 0, .inl 0), (43, .iconst 1, 1, 0, 0, 0, .inl (nI 1)), (44, .isub, 1, 0, 0, 0, .inl 0), (45, .imul, 1, 0, 0, 0, .inl 0), (46, .iconst 2, 1, 0, 0, 0, .inl (nI 2)), (47, .idiv, 1, 0, 0, 0, .inl 0), (48, .iadd, 1, 0, 0, 0, .inl 0), (49, .istore_n 2, 1, 2, 0, 0, .inl 0)])
  | 50 => (56, [(50, .iinc 3 1, 3, 3, 0, 0, .inl (nI 1)), (53, .goto (-49), 3, 4, 0, 0, .inl 0)])
  | 56 => (58, [(56, .iload_n 2, 1, 2, 0, 0, .inl 0), (57, .ireturn, 1, 0, 0, 0, .inl 0)])
  | n => (n, [])
theorem ck_34 : ∀ pc, px_cks pn_i34 (bk_34 pc).1 pc (bk_34 pc).2 = true := by
  intro pc
  unfold bk_34
  split <;> first | decide +kernel | simp [px_cks]
/-- NoThreeModel.laysFar(I)I -/
def bk_35 : Nat → Nat × List px_E := fun pc => match pc with
  | 0 => (2, [(0, .iconst 0, 1, 0, 0, 0, .inl (nI 0)), (1, .istore_n 2, 1, 2, 0, 0, .inl 0)])
  | 2 => (22, [(2, .iload_n 2, 1, 2, 0, 0, .inl 0), (3, .bipush 11, 2, 0, 0, 0, .inl (nI 11)), (5, .if_icmp .ge 26, 3, 31, 0, 0, .inl 0), (8, .aload_n 0, 1, 0, 0, 0, .inl 0), (9, .getfield 30, 3, 0, 15, 2, .inl 0), (12, .iload_n 2, 1, 2, 0, 0, .inl 0), (13, .iload_n 2, 1, 2, 0, 0, .inl 0), (14, .iload_n 1, 1, 1, 0, 0, .inl 0), (15, .if_icmp .ne 7, 3, 22, 0, 0, .inl 0), (18, .iconst 0, 1, 0, 0, 0, .inl (nI 0)), (19, .goto 5, 3, 24, 0, 0, .inl 0)])
  | 22 => (24, [(22, .bipush 99, 2, 0, 0, 0, .inl (nI 99))])
  | 24 => (31, [(24, .iastore, 1, 0, 0, 0, .inl 0), (25, .iinc 2 1, 3, 2, 0, 0, .inl (nI 1)), (28, .goto (-26), 3, 2, 0, 0, .inl 0)])
  | 31 => (35, [(31, .iconst 1, 1, 0, 0, 0, .inl (nI 1)), (32, .iload_n 1, 1, 1, 0, 0, .inl 0), (33, .ishl, 1, 0, 0, 0, .inl 0), (34, .istore_n 2, 1, 2, 0, 0, .inl 0)])
  | 35 => (40, [(35, .iload_n 2, 1, 2, 0, 0, .inl 0), (36, .istore_n 3, 1, 3, 0, 0, .inl 0), (37, .iconst 0, 1, 0, 0, 0, .inl (nI 0)), (38, .istore 4, 2, 4, 0, 0, .inl 0)])
  | 40 => (50, [(40, .iload_n 2, 1, 2, 0, 0, .inl 0), (41, .ifCond .eq 107, 3, 148, 0, 0, .inl 0), (44, .iconst 0, 1, 0, 0, 0, .inl (nI 0)), (45, .istore 5, 2, 5, 0, 0, .inl 0), (47, .iconst 0, 1, 0, 0, 0, .inl (nI 0)), (48, .istore 6, 2, 6, 0, 0, .inl 0)])
  | 50 => (82, [(50, .iload 6, 2, 6, 0, 0, .inl 0), (52, .aload_n 0, 1, 0, 0, 0, .inl 0), (53, .getfield 13, 3, 0, 1, 2, .inl 0), (56, .iconst 1, 1, 0, 0, 0, .inl (nI 1)), (57, .iaload, 1, 0, 0, 0, .inl 0), (58, .if_icmp .ge 34, 3, 92, 0, 0, .inl 0), (61, .iload 5, 2, 5, 0, 0, .inl 0), (63, .iload_n 2, 1, 2, 0, 0, .inl 0), (64, .i2l, 1, 0, 0, 0, .inl 0), (65, .iload 6, 2, 6, 0, 0, .inl 0), (67, .invokestatic 151, 3, 14, 2, 0, .inl 0), (70, .ifCond .eq 12, 3, 82, 0, 0, .inl 0), (73, .aload_n 0, 1, 0, 0, 0, .inl 0), (74, .iload 6, 2, 6, 0, 0, .inl 0), (76, .invokevirtual 205, 3, 31, 2, 0, .inl 0), (79, .goto 4, 3, 83, 0, 0, .inl 0)])
  | 82 => (83, [(82, .iconst 0, 1, 0, 0, 0, .inl (nI 0))])
  | 83 => (86, [(83, .ior, 1, 0, 0, 0, .inl 0), (84, .istore 5, 2, 5, 0, 0, .inl 0)])
  | 86 => (92, [(86, .iinc 6 1, 3, 6, 0, 0, .inl (nI 1)), (89, .goto (-39), 3, 50, 0, 0, .inl 0)])
  | 92 => (99, [(92, .iload 5, 2, 5, 0, 0, .inl 0), (94, .iload_n 3, 1, 3, 0, 0, .inl 0), (95, .iconst (-1), 1, 0, 0, 0, .inl (-1)), (96, .ixor, 1, 0, 0, 0, .inl 0), (97, .iand, 1, 0, 0, 0, .inl 0), (98, .istore_n 2, 1, 2, 0, 0, .inl 0)])
  | 99 => (103, [(99, .iload_n 3, 1, 3, 0, 0, .inl 0), (100, .iload_n 2, 1, 2, 0, 0, .inl 0), (101, .ior, 1, 0, 0, 0, .inl 0), (102, .istore_n 3, 1, 3, 0, 0, .inl 0)])
  | 103 => (109, [(103, .iinc 4 1, 3, 4, 0, 0, .inl (nI 1)), (106, .iconst 0, 1, 0, 0, 0, .inl (nI 0)), (107, .istore 6, 2, 6, 0, 0, .inl 0)])
  | 109 => (139, [(109, .iload 6, 2, 6, 0, 0, .inl 0), (111, .aload_n 0, 1, 0, 0, 0, .inl 0), (112, .getfield 13, 3, 0, 1, 2, .inl 0), (115, .iconst 1, 1, 0, 0, 0, .inl (nI 1)), (116, .iaload, 1, 0, 0, 0, .inl 0), (117, .if_icmp .ge 28, 3, 145, 0, 0, .inl 0), (120, .iload_n 2, 1, 2, 0, 0, .inl 0), (121, .i2l, 1, 0, 0, 0, .inl 0), (122, .iload 6, 2, 6, 0, 0, .inl 0), (124, .invokestatic 151, 3, 14, 2, 0, .inl 0), (127, .ifCond .eq 12, 3, 139, 0, 0, .inl 0), (130, .aload_n 0, 1, 0, 0, 0, .inl 0), (131, .getfield 30, 3, 0, 15, 2, .inl 0), (134, .iload 6, 2, 6, 0, 0, .inl 0), (136, .iload 4, 2, 4, 0, 0, .inl 0), (138, .iastore, 1, 0, 0, 0, .inl 0)])
  | 139 => (145, [(139, .iinc 6 1, 3, 6, 0, 0, .inl (nI 1)), (142, .goto (-33), 3, 109, 0, 0, .inl 0)])
  | 145 => (148, [(145, .goto (-105), 3, 40, 0, 0, .inl 0)])
  | 148 => (153, [(148, .iload 4, 2, 4, 0, 0, .inl 0), (150, .iconst 1, 1, 0, 0, 0, .inl (nI 1)), (151, .isub, 1, 0, 0, 0, .inl 0), (152, .ireturn, 1, 0, 0, 0, .inl 0)])
  | n => (n, [])
theorem ck_35 : ∀ pc, px_cks pn_i35 (bk_35 pc).1 pc (bk_35 pc).2 = true := by
  intro pc
  unfold bk_35
  split <;> first | decide +kernel | simp [px_cks]
/-- NoThreeModel.reachedFrom(I)I -/
def bk_36 : Nat → Nat × List px_E := fun pc => match pc with
  | 0 => (10, [(0, .aload_n 0, 1, 0, 0, 0, .inl 0), (1, .iload_n 1, 1, 1, 0, 0, .inl 0), (2, .invokevirtual 211, 3, 35, 2, 0, .inl 0), (5, .pop, 1, 0, 0, 0, .inl 0), (6, .iconst 0, 1, 0, 0, 0, .inl (nI 0)), (7, .istore_n 2, 1, 2, 0, 0, .inl 0), (8, .iconst 0, 1, 0, 0, 0, .inl (nI 0)), (9, .istore_n 3, 1, 3, 0, 0, .inl 0)])
  | 10 => (38, [(10, .iload_n 3, 1, 3, 0, 0, .inl 0), (11, .aload_n 0, 1, 0, 0, 0, .inl 0), (12, .getfield 13, 3, 0, 1, 2, .inl 0), (15, .iconst 1, 1, 0, 0, 0, .inl (nI 1)), (16, .iaload, 1, 0, 0, 0, .inl 0), (17, .if_icmp .ge 30, 3, 47, 0, 0, .inl 0), (20, .iload_n 2, 1, 2, 0, 0, .inl 0), (21, .aload_n 0, 1, 0, 0, 0, .inl 0), (22, .getfield 30, 3, 0, 15, 2, .inl 0), (25, .iload_n 3, 1, 3, 0, 0, .inl 0), (26, .iaload, 1, 0, 0, 0, .inl 0), (27, .bipush 99, 2, 0, 0, 0, .inl (nI 99)), (29, .if_icmp .ge 9, 3, 38, 0, 0, .inl 0), (32, .iconst 1, 1, 0, 0, 0, .inl (nI 1)), (33, .iload_n 3, 1, 3, 0, 0, .inl 0), (34, .ishl, 1, 0, 0, 0, .inl 0), (35, .goto 4, 3, 39, 0, 0, .inl 0)])
  | 38 => (39, [(38, .iconst 0, 1, 0, 0, 0, .inl (nI 0))])
  | 39 => (41, [(39, .ior, 1, 0, 0, 0, .inl 0), (40, .istore_n 2, 1, 2, 0, 0, .inl 0)])
  | 41 => (47, [(41, .iinc 3 1, 3, 3, 0, 0, .inl (nI 1)), (44, .goto (-34), 3, 10, 0, 0, .inl 0)])
  | 47 => (49, [(47, .iload_n 2, 1, 2, 0, 0, .inl 0), (48, .ireturn, 1, 0, 0, 0, .inl 0)])
  | n => (n, [])
theorem ck_36 : ∀ pc, px_cks pn_i36 (bk_36 pc).1 pc (bk_36 pc).2 = true := by
  intro pc
  unfold bk_36
  split <;> first | decide +kernel | simp [px_cks]
