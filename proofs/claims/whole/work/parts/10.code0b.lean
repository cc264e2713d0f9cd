/-- NoThreeModel.twoAway(I)I -/
def bk_37 : Nat → Nat × List px_E := fun pc => match pc with
  | 0 => (10, [(0, .aload_n 0, 1, 0, 0, 0, .inl 0), (1, .iload_n 1, 1, 1, 0, 0, .inl 0), (2, .invokevirtual 211, 3, 35, 2, 0, .inl 0), (5, .pop, 1, 0, 0, 0, .inl 0), (6, .iconst 0, 1, 0, 0, 0, .inl (nI 0)), (7, .istore_n 2, 1, 2, 0, 0, .inl 0), (8, .iconst 0, 1, 0, 0, 0, .inl (nI 0)), (9, .istore_n 3, 1, 3, 0, 0, .inl 0)])
  | 10 => (37, [(10, .iload_n 3, 1, 3, 0, 0, .inl 0), (11, .aload_n 0, 1, 0, 0, 0, .inl 0), (12, .getfield 13, 3, 0, 1, 2, .inl 0), (15, .iconst 1, 1, 0, 0, 0, .inl (nI 1)), (16, .iaload, 1, 0, 0, 0, .inl 0), (17, .if_icmp .ge 29, 3, 46, 0, 0, .inl 0), (20, .iload_n 2, 1, 2, 0, 0, .inl 0), (21, .aload_n 0, 1, 0, 0, 0, .inl 0), (22, .getfield 30, 3, 0, 15, 2, .inl 0), (25, .iload_n 3, 1, 3, 0, 0, .inl 0), (26, .iaload, 1, 0, 0, 0, .inl 0), (27, .iconst 2, 1, 0, 0, 0, .inl (nI 2)), (28, .if_icmp .ne 9, 3, 37, 0, 0, .inl 0), (31, .iconst 1, 1, 0, 0, 0, .inl (nI 1)), (32, .iload_n 3, 1, 3, 0, 0, .inl 0), (33, .ishl, 1, 0, 0, 0, .inl 0), (34, .goto 4, 3, 38, 0, 0, .inl 0)])
  | 37 => (38, [(37, .iconst 0, 1, 0, 0, 0, .inl (nI 0))])
  | 38 => (40, [(38, .ior, 1, 0, 0, 0, .inl 0), (39, .istore_n 2, 1, 2, 0, 0, .inl 0)])
  | 40 => (46, [(40, .iinc 3 1, 3, 3, 0, 0, .inl (nI 1)), (43, .goto (-33), 3, 10, 0, 0, .inl 0)])
  | 46 => (48, [(46, .iload_n 2, 1, 2, 0, 0, .inl 0), (47, .ireturn, 1, 0, 0, 0, .inl 0)])
  | n => (n, [])
theorem ck_37 : ∀ pc, px_cks pn_i37 (bk_37 pc).1 pc (bk_37 pc).2 = true := by
  intro pc
  unfold bk_37
  split <;> first | decide +kernel | simp [px_cks]
/-- NoThreeModel.house(II)I -/
def bk_38 : Nat → Nat × List px_E := fun pc => match pc with
  | 0 => (17, [(0, .aload_n 0, 1, 0, 0, 0, .inl 0), (1, .iconst 0, 1, 0, 0, 0, .inl (nI 0)), (2, .putfield 1, 3, 0, 0, 0, .inl 0), (5, .aload_n 0, 1, 0, 0, 0, .inl 0), (6, .iload_n 1, 1, 1, 0, 0, .inl 0), (7, .i2l, 1, 0, 0, 0, .inl 0), (8, .invokevirtual 214, 3, 30, 2, 0, .inl 0), (11, .ifCond .ne 6, 3, 17, 0, 0, .inl 0), (14, .bipush (-2), 2, 0, 0, 0, .inl (-2)), (16, .ireturn, 1, 0, 0, 0, .inl 0)])
  | 17 => (60, [(17, .iload_n 2, 1, 2, 0, 0, .inl 0), (18, .tableswitch 87 0 6 #[42, 51, 57, 63, 69, 75, 81], 42, 0, 0, 0, .inl 0)])
  | 60 => (69, [(60, .aload_n 0, 1, 0, 0, 0, .inl 0), (61, .iload_n 1, 1, 1, 0, 0, .inl 0), (62, .invokevirtual 205, 3, 31, 2, 0, .inl 0), (65, .invokestatic 208, 3, 32, 1, 0, .inl 0), (68, .ireturn, 1, 0, 0, 0, .inl 0)])
  | 69 => (75, [(69, .aload_n 0, 1, 0, 0, 0, .inl 0), (70, .iload_n 1, 1, 1, 0, 0, .inl 0), (71, .invokevirtual 205, 3, 31, 2, 0, .inl 0), (74, .ireturn, 1, 0, 0, 0, .inl 0)])
  | 75 => (81, [(75, .aload_n 0, 1, 0, 0, 0, .inl 0), (76, .iload_n 1, 1, 1, 0, 0, .inl 0), (77, .invokevirtual 218, 3, 33, 2, 0, .inl 0), (80, .ireturn, 1, 0, 0, 0, .inl 0)])
  | 81 => (87, [(81, .aload_n 0, 1, 0, 0, 0, .inl 0), (82, .iload_n 1, 1, 1, 0, 0, .inl 0), (83, .invokevirtual 221, 3, 34, 2, 0, .inl 0), (86, .ireturn, 1, 0, 0, 0, .inl 0)])
  | 87 => (93, [(87, .aload_n 0, 1, 0, 0, 0, .inl 0), (88, .iload_n 1, 1, 1, 0, 0, .inl 0), (89, .invokevirtual 211, 3, 35, 2, 0, .inl 0), (92, .ireturn, 1, 0, 0, 0, .inl 0)])
  | 93 => (99, [(93, .aload_n 0, 1, 0, 0, 0, .inl 0), (94, .iload_n 1, 1, 1, 0, 0, .inl 0), (95, .invokevirtual 224, 3, 36, 2, 0, .inl 0), (98, .ireturn, 1, 0, 0, 0, .inl 0)])
  | 99 => (105, [(99, .aload_n 0, 1, 0, 0, 0, .inl 0), (100, .iload_n 1, 1, 1, 0, 0, .inl 0), (101, .invokevirtual 227, 3, 37, 2, 0, .inl 0), (104, .ireturn, 1, 0, 0, 0, .inl 0)])
  | 105 => (108, [(105, .bipush (-2), 2, 0, 0, 0, .inl (-2)), (107, .ireturn, 1, 0, 0, 0, .inl 0)])
  | n => (n, [])
theorem ck_38 : ∀ pc, px_cks pn_i38 (bk_38 pc).1 pc (bk_38 pc).2 = true := by
  intro pc
  unfold bk_38
  split <;> first | decide +kernel | simp [px_cks]
/-- NoThreeModel.steps(II)I -/
def bk_39 : Nat → Nat × List px_E := fun pc => match pc with
  | 0 => (23, [(0, .aload_n 0, 1, 0, 0, 0, .inl 0), (1, .iconst 0, 1, 0, 0, 0, .inl (nI 0)), (2, .putfield 1, 3, 0, 0, 0, .inl 0), (5, .aload_n 0, 1, 0, 0, 0, .inl 0), (6, .iload_n 1, 1, 1, 0, 0, .inl 0), (7, .i2l, 1, 0, 0, 0, .inl 0), (8, .invokevirtual 214, 3, 30, 2, 0, .inl 0), (11, .ifCond .eq 12, 3, 23, 0, 0, .inl 0), (14, .aload_n 0, 1, 0, 0, 0, .inl 0), (15, .iload_n 2, 1, 2, 0, 0, .inl 0), (16, .i2l, 1, 0, 0, 0, .inl 0), (17, .invokevirtual 214, 3, 30, 2, 0, .inl 0), (20, .ifCond .ne 6, 3, 26, 0, 0, .inl 0)])
  | 23 => (26, [(23, .bipush (-2), 2, 0, 0, 0, .inl (-2)), (25, .ireturn, 1, 0, 0, 0, .inl 0)])
  | 26 => (32, [(26, .aload_n 0, 1, 0, 0, 0, .inl 0), (27, .iload_n 1, 1, 1, 0, 0, .inl 0), (28, .invokevirtual 211, 3, 35, 2, 0, .inl 0), (31, .pop, 1, 0, 0, 0, .inl 0)])
  | 32 => (47, [(32, .aload_n 0, 1, 0, 0, 0, .inl 0), (33, .getfield 30, 3, 0, 15, 2, .inl 0), (36, .iload_n 2, 1, 2, 0, 0, .inl 0), (37, .iaload, 1, 0, 0, 0, .inl 0), (38, .bipush 99, 2, 0, 0, 0, .inl (nI 99)), (40, .if_icmp .ne 7, 3, 47, 0, 0, .inl 0), (43, .iconst (-1), 1, 0, 0, 0, .inl (-1)), (44, .goto 9, 3, 53, 0, 0, .inl 0)])
  | 47 => (53, [(47, .aload_n 0, 1, 0, 0, 0, .inl 0), (48, .getfield 30, 3, 0, 15, 2, .inl 0), (51, .iload_n 2, 1, 2, 0, 0, .inl 0), (52, .iaload, 1, 0, 0, 0, .inl 0)])
  | 53 => (54, [(53, .ireturn, 1, 0, 0, 0, .inl 0)])
  | n => (n, [])
theorem ck_39 : ∀ pc, px_cks pn_i39 (bk_39 pc).1 pc (bk_39 pc).2 = true := by
  intro pc
  unfold bk_39
  split <;> first | decide +kernel | simp [px_cks]
/-- NoThreeModel.isFeast(I)Z -/
def bk_40 : Nat → Nat × List px_E := fun pc => match pc with
  | 0 => (2, [(0, .iconst 0, 1, 0, 0, 0, .inl (nI 0)), (1, .istore_n 2, 1, 2, 0, 0, .inl 0)])
  | 2 => (33, [(2, .iload_n 2, 1, 2, 0, 0, .inl 0), (3, .aload_n 0, 1, 0, 0, 0, .inl 0), (4, .getfield 13, 3, 0, 1, 2, .inl 0), (7, .iconst 1, 1, 0, 0, 0, .inl (nI 1)), (8, .iaload, 1, 0, 0, 0, .inl 0), (9, .if_icmp .ge 30, 3, 39, 0, 0, .inl 0), (12, .iload_n 1, 1, 1, 0, 0, .inl 0), (13, .i2l, 1, 0, 0, 0, .inl 0), (14, .iload_n 2, 1, 2, 0, 0, .inl 0), (15, .invokestatic 151, 3, 14, 2, 0, .inl 0), (18, .ifCond .eq 15, 3, 33, 0, 0, .inl 0), (21, .aload_n 0, 1, 0, 0, 0, .inl 0), (22, .iload_n 2, 1, 2, 0, 0, .inl 0), (23, .invokevirtual 205, 3, 31, 2, 0, .inl 0), (26, .iload_n 1, 1, 1, 0, 0, .inl 0), (27, .iand, 1, 0, 0, 0, .inl 0), (28, .ifCond .eq 5, 3, 33, 0, 0, .inl 0), (31, .iconst 0, 1, 0, 0, 0, .inl (nI 0)), (32, .ireturn, 1, 0, 0, 0, .inl 0)])
  | 33 => (39, [(33, .iinc 2 1, 3, 2, 0, 0, .inl (nI 1)), (36, .goto (-34), 3, 2, 0, 0, .inl 0)])
  | 39 => (41, [(39, .iconst 1, 1, 0, 0, 0, .inl (nI 1)), (40, .ireturn, 1, 0, 0, 0, .inl 0)])
  | n => (n, [])
theorem ck_40 : ∀ pc, px_cks pn_i40 (bk_40 pc).1 pc (bk_40 pc).2 = true := by
  intro pc
  unfold bk_40
  split <;> first | decide +kernel | simp [px_cks]
/-- NoThreeModel.feastWith(I)I -/
def bk_41 : Nat → Nat × List px_E := fun pc => match pc with
  | 0 => (4, [(0, .iconst (-1), 1, 0, 0, 0, .inl (-1)), (1, .istore_n 2, 1, 2, 0, 0, .inl 0), (2, .iconst 0, 1, 0, 0, 0, .inl (nI 0)), (3, .istore_n 3, 1, 3, 0, 0, .inl 0)])
  | 4 => (39, [(4, .iload_n 3, 1, 3, 0, 0, .inl 0), (5, .iconst 1, 1, 0, 0, 0, .inl (nI 1)), (6, .aload_n 0, 1, 0, 0, 0, .inl 0), (7, .getfield 13, 3, 0, 1, 2, .inl 0), (10, .iconst 1, 1, 0, 0, 0, .inl (nI 1)), (11, .iaload, 1, 0, 0, 0, .inl 0), (12, .ishl, 1, 0, 0, 0, .inl 0), (13, .if_icmp .ge 42, 3, 55, 0, 0, .inl 0), (16, .iload_n 3, 1, 3, 0, 0, .inl 0), (17, .iload_n 1, 1, 1, 0, 0, .inl 0), (18, .iand, 1, 0, 0, 0, .inl 0), (19, .iload_n 1, 1, 1, 0, 0, .inl 0), (20, .if_icmp .ne 29, 3, 49, 0, 0, .inl 0), (23, .iload_n 2, 1, 2, 0, 0, .inl 0), (24, .iconst (-1), 1, 0, 0, 0, .inl (-1)), (25, .if_icmp .eq 14, 3, 39, 0, 0, .inl 0), (28, .iload_n 3, 1, 3, 0, 0, .inl 0), (29, .invokestatic 208, 3, 32, 1, 0, .inl 0), (32, .iload_n 2, 1, 2, 0, 0, .inl 0), (33, .invokestatic 208, 3, 32, 1, 0, .inl 0), (36, .if_icmp .le 13, 3, 49, 0, 0, .inl 0)])
  | 39 => (49, [(39, .aload_n 0, 1, 0, 0, 0, .inl 0), (40, .iload_n 3, 1, 3, 0, 0, .inl 0), (41, .invokevirtual 230, 3, 40, 2, 0, .inl 0), (44, .ifCond .eq 5, 3, 49, 0, 0, .inl 0), (47, .iload_n 3, 1, 3, 0, 0, .inl 0), (48, .istore_n 2, 1, 2, 0, 0, .inl 0)])
  | 49 => (55, [(49, .iinc 3 1, 3, 3, 0, 0, .inl (nI 1)), (52, .goto (-48), 3, 4, 0, 0, .inl 0)])
  | 55 => (57, [(55, .iload_n 2, 1, 2, 0, 0, .inl 0), (56, .ireturn, 1, 0, 0, 0, .inl 0)])
  | n => (n, [])
theorem ck_41 : ∀ pc, px_cks pn_i41 (bk_41 pc).1 pc (bk_41 pc).2 = true := by
  intro pc
  unfold bk_41
  split <;> first | decide +kernel | simp [px_cks]
/-- NoThreeModel.dyes(III)Z -/
def bk_42 : Nat → Nat × List px_E := fun pc => match pc with
  | 0 => (12, [(0, .iload_n 1, 1, 1, 0, 0, .inl 0), (1, .aload_n 0, 1, 0, 0, 0, .inl 0), (2, .getfield 13, 3, 0, 1, 2, .inl 0), (5, .iconst 1, 1, 0, 0, 0, .inl (nI 1)), (6, .iaload, 1, 0, 0, 0, .inl 0), (7, .if_icmp .ne 5, 3, 12, 0, 0, .inl 0), (10, .iconst 1, 1, 0, 0, 0, .inl (nI 1)), (11, .ireturn, 1, 0, 0, 0, .inl 0)])
  | 12 => (27, [(12, .iload_n 1, 1, 1, 0, 0, .inl 0), (13, .iload_n 3, 1, 3, 0, 0, .inl 0), (14, .if_icmp .ne 13, 3, 27, 0, 0, .inl 0), (17, .aload_n 0, 1, 0, 0, 0, .inl 0), (18, .iload_n 1, 1, 1, 0, 0, .inl 0), (19, .iconst 1, 1, 0, 0, 0, .inl (nI 1)), (20, .iadd, 1, 0, 0, 0, .inl 0), (21, .iload_n 2, 1, 2, 0, 0, .inl 0), (22, .iload_n 3, 1, 3, 0, 0, .inl 0), (23, .invokevirtual 233, 3, 42, 4, 0, .inl 0), (26, .ireturn, 1, 0, 0, 0, .inl 0)])
  | 27 => (30, [(27, .iconst 0, 1, 0, 0, 0, .inl (nI 0)), (28, .istore 4, 2, 4, 0, 0, .inl 0)])
  | 30 => (42, [(30, .iload 4, 2, 4, 0, 0, .inl 0), (32, .iload_n 2, 1, 2, 0, 0, .inl 0), (33, .if_icmp .ge 101, 3, 134, 0, 0, .inl 0), (36, .iconst 1, 1, 0, 0, 0, .inl (nI 1)), (37, .istore 5, 2, 5, 0, 0, .inl 0), (39, .iconst 0, 1, 0, 0, 0, .inl (nI 0)), (40, .istore 6, 2, 6, 0, 0, .inl 0)])
  | 42 => (73, [(42, .iload 6, 2, 6, 0, 0, .inl 0), (44, .iload_n 1, 1, 1, 0, 0, .inl 0), (45, .if_icmp .ge 53, 3, 98, 0, 0, .inl 0), (48, .iload 5, 2, 5, 0, 0, .inl 0), (50, .ifCond .eq 48, 3, 98, 0, 0, .inl 0), (53, .iload 6, 2, 6, 0, 0, .inl 0), (55, .iload_n 3, 1, 3, 0, 0, .inl 0), (56, .if_icmp .eq 29, 3, 85, 0, 0, .inl 0), (59, .aload_n 0, 1, 0, 0, 0, .inl 0), (60, .iload_n 1, 1, 1, 0, 0, .inl 0), (61, .invokevirtual 205, 3, 31, 2, 0, .inl 0), (64, .i2l, 1, 0, 0, 0, .inl 0), (65, .iload 6, 2, 6, 0, 0, .inl 0), (67, .invokestatic 151, 3, 14, 2, 0, .inl 0), (70, .ifCond .eq 15, 3, 85, 0, 0, .inl 0)])
  | 73 => (85, [(73, .aload_n 0, 1, 0, 0, 0, .inl 0), (74, .getfield 33, 3, 0, 16, 2, .inl 0), (77, .iload 6, 2, 6, 0, 0, .inl 0), (79, .iaload, 1, 0, 0, 0, .inl 0), (80, .iload 4, 2, 4, 0, 0, .inl 0), (82, .if_icmp .eq 7, 3, 89, 0, 0, .inl 0)])
  | 85 => (89, [(85, .iconst 1, 1, 0, 0, 0, .inl (nI 1)), (86, .goto 4, 3, 90, 0, 0, .inl 0)])
  | 89 => (90, [(89, .iconst 0, 1, 0, 0, 0, .inl (nI 0))])
  | 90 => (98, [(90, .istore 5, 2, 5, 0, 0, .inl 0), (92, .iinc 6 1, 3, 6, 0, 0, .inl (nI 1)), (95, .goto (-53), 3, 42, 0, 0, .inl 0)])
  | 98 => (106, [(98, .iload 5, 2, 5, 0, 0, .inl 0), (100, .ifCond .ne 6, 3, 106, 0, 0, .inl 0), (103, .goto 25, 3, 128, 0, 0, .inl 0)])
  | 106 => (128, [(106, .aload_n 0, 1, 0, 0, 0, .inl 0), (107, .getfield 33, 3, 0, 16, 2, .inl 0), (110, .iload_n 1, 1, 1, 0, 0, .inl 0), (111, .iload 4, 2, 4, 0, 0, .inl 0), (113, .iastore, 1, 0, 0, 0, .inl 0), (114, .aload_n 0, 1, 0, 0, 0, .inl 0), (115, .iload_n 1, 1, 1, 0, 0, .inl 0), (116, .iconst 1, 1, 0, 0, 0, .inl (nI 1)), (117, .iadd, 1, 0, 0, 0, .inl 0), (118, .iload_n 2, 1, 2, 0, 0, .inl 0), (119, .iload_n 3, 1, 3, 0, 0, .inl 0), (120, .invokevirtual 233, 3, 42, 4, 0, .inl 0), (123, .ifCond .eq 5, 3, 128, 0, 0, .inl 0), (126, .iconst 1, 1, 0, 0, 0, .inl (nI 1)), (127, .ireturn, 1, 0, 0, 0, .inl 0)])
  | 128 => (134, [(128, .iinc 4 1, 3, 4, 0, 0, .inl (nI 1)), (131, .goto (-101), 3, 30, 0, 0, .inl 0)])
  | 134 => (136, [(134, .iconst 0, 1, 0, 0, 0, .inl (nI 0)), (135, .ireturn, 1, 0, 0, 0, .inl 0)])
  | n => (n, [])
theorem ck_42 : ∀ pc, px_cks pn_i42 (bk_42 pc).1 pc (bk_42 pc).2 = true := by
  intro pc
  unfold bk_42
  split <;> first | decide +kernel | simp [px_cks]
/-- NoThreeModel.fewestColours(I)I -/
def bk_43 : Nat → Nat × List px_E := fun pc => match pc with
  | 0 => (2, [(0, .iconst 0, 1, 0, 0, 0, .inl (nI 0)), (1, .istore_n 2, 1, 2, 0, 0, .inl 0)])
  | 2 => (18, [(2, .aload_n 0, 1, 0, 0, 0, .inl 0), (3, .iconst 0, 1, 0, 0, 0, .inl (nI 0)), (4, .iload_n 2, 1, 2, 0, 0, .inl 0), (5, .iload_n 1, 1, 1, 0, 0, .inl 0), (6, .invokevirtual 233, 3, 42, 4, 0, .inl 0), (9, .ifCond .ne 9, 3, 18, 0, 0, .inl 0), (12, .iinc 2 1, 3, 2, 0, 0, .inl (nI 1)), (15, .goto (-13), 3, 2, 0, 0, .inl 0)])
  | 18 => (20, [(18, .iload_n 2, 1, 2, 0, 0, .inl 0), (19, .ireturn, 1, 0, 0, 0, .inl 0)])
  | n => (n, [])
theorem ck_43 : ∀ pc, px_cks pn_i43 (bk_43 pc).1 pc (bk_43 pc).2 = true := by
  intro pc
  unfold bk_43
  split <;> first | decide +kernel | simp [px_cks]
/-- NoThreeModel.halfOf()I -/
def bk_44 : Nat → Nat × List px_E := fun pc => match pc with
  | 0 => (6, [(0, .iconst 0, 1, 0, 0, 0, .inl (nI 0)), (1, .istore_n 1, 1, 1, 0, 0, .inl 0), (2, .iconst 0, 1, 0, 0, 0, .inl (nI 0)), (3, .istore_n 2, 1, 2, 0, 0, .inl 0), (4, .iconst 0, 1, 0, 0, 0, .inl (nI 0)), (5, .istore_n 3, 1, 3, 0, 0, .inl 0)])
  | 6 => (30, [(6, .iload_n 3, 1, 3, 0, 0, .inl 0), (7, .aload_n 0, 1, 0, 0, 0, .inl 0), (8, .getfield 13, 3, 0, 1, 2, .inl 0), (11, .iconst 1, 1, 0, 0, 0, .inl (nI 1)), (12, .iaload, 1, 0, 0, 0, .inl 0), (13, .if_icmp .ge 93, 3, 106, 0, 0, .inl 0), (16, .iload_n 1, 1, 1, 0, 0, .inl 0), (17, .iload_n 2, 1, 2, 0, 0, .inl 0), (18, .ior, 1, 0, 0, 0, .inl 0), (19, .i2l, 1, 0, 0, 0, .inl 0), (20, .iload_n 3, 1, 3, 0, 0, .inl 0), (21, .invokestatic 151, 3, 14, 2, 0, .inl 0), (24, .ifCond .eq 6, 3, 30, 0, 0, .inl 0), (27, .goto 73, 3, 100, 0, 0, .inl 0)])
  | 30 => (39, [(30, .aload_n 0, 1, 0, 0, 0, .inl 0), (31, .iload_n 3, 1, 3, 0, 0, .inl 0), (32, .invokevirtual 211, 3, 35, 2, 0, .inl 0), (35, .pop, 1, 0, 0, 0, .inl 0), (36, .iconst 0, 1, 0, 0, 0, .inl (nI 0)), (37, .istore 4, 2, 4, 0, 0, .inl 0)])
  | 39 => (65, [(39, .iload 4, 2, 4, 0, 0, .inl 0), (41, .aload_n 0, 1, 0, 0, 0, .inl 0), (42, .getfield 13, 3, 0, 1, 2, .inl 0), (45, .iconst 1, 1, 0, 0, 0, .inl (nI 1)), (46, .iaload, 1, 0, 0, 0, .inl 0), (47, .if_icmp .ge 53, 3, 100, 0, 0, .inl 0), (50, .aload_n 0, 1, 0, 0, 0, .inl 0), (51, .getfield 30, 3, 0, 15, 2, .inl 0), (54, .iload 4, 2, 4, 0, 0, .inl 0), (56, .iaload, 1, 0, 0, 0, .inl 0), (57, .bipush 99, 2, 0, 0, 0, .inl (nI 99)), (59, .if_icmp .ne 6, 3, 65, 0, 0, .inl 0), (62, .goto 32, 3, 94, 0, 0, .inl 0)])
  | 65 => (87, [(65, .aload_n 0, 1, 0, 0, 0, .inl 0), (66, .getfield 30, 3, 0, 15, 2, .inl 0), (69, .iload 4, 2, 4, 0, 0, .inl 0), (71, .iaload, 1, 0, 0, 0, .inl 0), (72, .iconst 2, 1, 0, 0, 0, .inl (nI 2)), (73, .irem, 1, 0, 0, 0, .inl 0), (74, .ifCond .ne 13, 3, 87, 0, 0, .inl 0), (77, .iload_n 1, 1, 1, 0, 0, .inl 0), (78, .iconst 1, 1, 0, 0, 0, .inl (nI 1)), (79, .iload 4, 2, 4, 0, 0, .inl 0), (81, .ishl, 1, 0, 0, 0, .inl 0), (82, .ior, 1, 0, 0, 0, .inl 0), (83, .istore_n 1, 1, 1, 0, 0, .inl 0), (84, .goto 10, 3, 94, 0, 0, .inl 0)])
  | 87 => (94, [(87, .iload_n 2, 1, 2, 0, 0, .inl 0), (88, .iconst 1, 1, 0, 0, 0, .inl (nI 1)), (89, .iload 4, 2, 4, 0, 0, .inl 0), (91, .ishl, 1, 0, 0, 0, .inl 0), (92, .ior, 1, 0, 0, 0, .inl 0), (93, .istore_n 2, 1, 2, 0, 0, .inl 0)])
  | 94 => (100, [(94, .iinc 4 1, 3, 4, 0, 0, .inl (nI 1)), (97, .goto (-58), 3, 39, 0, 0, .inl 0)])
  | 100 => (106, [(100, .iinc 3 1, 3, 3, 0, 0, .inl (nI 1)), (103, .goto (-97), 3, 6, 0, 0, .inl 0)])
  | 106 => (126, [(106, .aload_n 0, 1, 0, 0, 0, .inl 0), (107, .iload_n 1, 1, 1, 0, 0, .inl 0), (108, .invokevirtual 230, 3, 40, 2, 0, .inl 0), (111, .ifCond .eq 15, 3, 126, 0, 0, .inl 0), (114, .aload_n 0, 1, 0, 0, 0, .inl 0), (115, .iload_n 2, 1, 2, 0, 0, .inl 0), (116, .invokevirtual 230, 3, 40, 2, 0, .inl 0), (119, .ifCond .eq 7, 3, 126, 0, 0, .inl 0), (122, .iload_n 1, 1, 1, 0, 0, .inl 0), (123, .goto 4, 3, 127, 0, 0, .inl 0)])
  | 126 => (127, [(126, .iconst (-1), 1, 0, 0, 0, .inl (-1))])
  | 127 => (128, [(127, .ireturn, 1, 0, 0, 0, .inl 0)])
  | n => (n, [])
theorem ck_44 : ∀ pc, px_cks pn_i44 (bk_44 pc).1 pc (bk_44 pc).2 = true := by
  intro pc
  unfold bk_44
  split <;> first | decide +kernel | simp [px_cks]
/-- NoThreeModel.doorMany()I -/
def bk_45 : Nat → Nat × List px_E := fun pc => match pc with
  | 0 => (4, [(0, .iconst 0, 1, 0, 0, 0, .inl (nI 0)), (1, .istore_n 1, 1, 1, 0, 0, .inl 0), (2, .iconst 0, 1, 0, 0, 0, .inl (nI 0)), (3, .istore_n 2, 1, 2, 0, 0, .inl 0)])
  | 4 => (25, [(4, .iload_n 2, 1, 2, 0, 0, .inl 0), (5, .aload_n 0, 1, 0, 0, 0, .inl 0), (6, .getfield 13, 3, 0, 1, 2, .inl 0), (9, .iconst 1, 1, 0, 0, 0, .inl (nI 1)), (10, .iaload, 1, 0, 0, 0, .inl 0), (11, .if_icmp .ge 20, 3, 31, 0, 0, .inl 0), (14, .iload_n 1, 1, 1, 0, 0, .inl 0), (15, .aload_n 0, 1, 0, 0, 0, .inl 0), (16, .iload_n 2, 1, 2, 0, 0, .inl 0), (17, .invokevirtual 205, 3, 31, 2, 0, .inl 0), (20, .invokestatic 208, 3, 32, 1, 0, .inl 0), (23, .iadd, 1, 0, 0, 0, .inl 0), (24, .istore_n 1, 1, 1, 0, 0, .inl 0)])
  | 25 => (31, [(25, .iinc 2 1, 3, 2, 0, 0, .inl (nI 1)), (28, .goto (-24), 3, 4, 0, 0, .inl 0)])
  | 31 => (35, [(31, .iload_n 1, 1, 1, 0, 0, .inl 0), (32, .iconst 2, 1, 0, 0, 0, .inl (nI 2)), (33, .idiv, 1, 0, 0, 0, .inl 0), (34, .ireturn, 1, 0, 0, 0, .inl 0)])
  | n => (n, [])
theorem ck_45 : ∀ pc, px_cks pn_i45 (bk_45 pc).1 pc (bk_45 pc).2 = true := by
  intro pc
  unfold bk_45
  split <;> first | decide +kernel | simp [px_cks]
/-- NoThreeModel.wordOf(II)I -/
def bk_46 : Nat → Nat × List px_E := fun pc => match pc with
  | 0 => (84, [(0, .iload_n 1, 1, 1, 0, 0, .inl 0), (1, .lookupswitch 151 #[(1000, 83), (1001, 92), (1002, 98), (1003, 104), (1004, 110), (1005, 115), (1006, 124), (1007, 130), (1100, 144)], 83, 1, 0, 0, .inl 0)])
  | 84 => (93, [(84, .aload_n 0, 1, 0, 0, 0, .inl 0), (85, .iload_n 2, 1, 2, 0, 0, .inl 0), (86, .invokevirtual 205, 3, 31, 2, 0, .inl 0), (89, .invokestatic 208, 3, 32, 1, 0, .inl 0), (92, .ireturn, 1, 0, 0, 0, .inl 0)])
  | 93 => (99, [(93, .aload_n 0, 1, 0, 0, 0, .inl 0), (94, .iload_n 2, 1, 2, 0, 0, .inl 0), (95, .invokevirtual 218, 3, 33, 2, 0, .inl 0), (98, .ireturn, 1, 0, 0, 0, .inl 0)])
  | 99 => (105, [(99, .aload_n 0, 1, 0, 0, 0, .inl 0), (100, .iload_n 2, 1, 2, 0, 0, .inl 0), (101, .invokevirtual 221, 3, 34, 2, 0, .inl 0), (104, .ireturn, 1, 0, 0, 0, .inl 0)])
  | 105 => (111, [(105, .aload_n 0, 1, 0, 0, 0, .inl 0), (106, .iload_n 2, 1, 2, 0, 0, .inl 0), (107, .invokevirtual 211, 3, 35, 2, 0, .inl 0), (110, .ireturn, 1, 0, 0, 0, .inl 0)])
  | 111 => (116, [(111, .aload_n 0, 1, 0, 0, 0, .inl 0), (112, .invokevirtual 237, 3, 45, 1, 0, .inl 0), (115, .ireturn, 1, 0, 0, 0, .inl 0)])
  | 116 => (125, [(116, .aload_n 0, 1, 0, 0, 0, .inl 0), (117, .iconst 0, 1, 0, 0, 0, .inl (nI 0)), (118, .invokevirtual 240, 3, 41, 2, 0, .inl 0), (121, .invokestatic 208, 3, 32, 1, 0, .inl 0), (124, .ireturn, 1, 0, 0, 0, .inl 0)])
  | 125 => (131, [(125, .aload_n 0, 1, 0, 0, 0, .inl 0), (126, .iconst (-1), 1, 0, 0, 0, .inl (-1)), (127, .invokevirtual 243, 3, 43, 2, 0, .inl 0), (130, .ireturn, 1, 0, 0, 0, .inl 0)])
  | 131 => (139, [(131, .aload_n 0, 1, 0, 0, 0, .inl 0), (132, .invokevirtual 246, 3, 44, 1, 0, .inl 0), (135, .iconst (-1), 1, 0, 0, 0, .inl (-1)), (136, .if_icmp .ne 7, 3, 143, 0, 0, .inl 0)])
  | 139 => (143, [(139, .iconst 0, 1, 0, 0, 0, .inl (nI 0)), (140, .goto 4, 3, 144, 0, 0, .inl 0)])
  | 143 => (144, [(143, .iconst 1, 1, 0, 0, 0, .inl (nI 1))])
  | 144 => (145, [(144, .ireturn, 1, 0, 0, 0, .inl 0)])
  | 145 => (152, [(145, .aload_n 0, 1, 0, 0, 0, .inl 0), (146, .getfield 13, 3, 0, 1, 2, .inl 0), (149, .iconst 1, 1, 0, 0, 0, .inl (nI 1)), (150, .iaload, 1, 0, 0, 0, .inl 0), (151, .ireturn, 1, 0, 0, 0, .inl 0)])
  | 152 => (154, [(152, .iload_n 1, 1, 1, 0, 0, .inl 0), (153, .ireturn, 1, 0, 0, 0, .inl 0)])
  | n => (n, [])
theorem ck_46 : ∀ pc, px_cks pn_i46 (bk_46 pc).1 pc (bk_46 pc).2 = true := by
  intro pc
  unfold bk_46
  split <;> first | decide +kernel | simp [px_cks]
/-- NoThreeModel.between(III)I -/
def bk_47 : Nat → Nat × List px_E := fun pc => match pc with
  | 0 => (22, [(0, .iload_n 0, 1, 0, 0, 0, .inl 0), (1, .sipush 3002, 3, 0, 0, 0, .inl (nI 3002)), (4, .if_icmp .gt 70, 3, 74, 0, 0, .inl 0), (7, .iload_n 0, 1, 0, 0, 0, .inl 0), (8, .sipush 3000, 3, 0, 0, 0, .inl (nI 3000)), (11, .if_icmp .ne 11, 3, 22, 0, 0, .inl 0), (14, .iload_n 1, 1, 1, 0, 0, .inl 0), (15, .i2l, 1, 0, 0, 0, .inl 0), (16, .iload_n 2, 1, 2, 0, 0, .inl 0), (17, .i2l, 1, 0, 0, 0, .inl 0), (18, .ladd, 1, 0, 0, 0, .inl 0), (19, .goto 23, 3, 42, 0, 0, .inl 0)])
  | 22 => (37, [(22, .iload_n 0, 1, 0, 0, 0, .inl 0), (23, .sipush 3001, 3, 0, 0, 0, .inl (nI 3001)), (26, .if_icmp .ne 11, 3, 37, 0, 0, .inl 0), (29, .iload_n 1, 1, 1, 0, 0, .inl 0), (30, .i2l, 1, 0, 0, 0, .inl 0), (31, .iload_n 2, 1, 2, 0, 0, .inl 0), (32, .i2l, 1, 0, 0, 0, .inl 0), (33, .lsub, 1, 0, 0, 0, .inl 0), (34, .goto 8, 3, 42, 0, 0, .inl 0)])
  | 37 => (42, [(37, .iload_n 1, 1, 1, 0, 0, .inl 0), (38, .i2l, 1, 0, 0, 0, .inl 0), (39, .iload_n 2, 1, 2, 0, 0, .inl 0), (40, .i2l, 1, 0, 0, 0, .inl 0), (41, .lmul, 1, 0, 0, 0, .inl 0)])
  | 42 => (43, [(42, .lstore_n 3, 1, 3, 0, 0, .inl 0)])
  | 43 => (57, [(43, .lload_n 3, 1, 3, 0, 0, .inl 0), (44, .ldc2_w 249, 3, 0, 0, 0, .inr (.inl (lN 1000000))), (47, .lcmp, 1, 0, 0, 0, .inl 0), (48, .ifCond .le 9, 3, 57, 0, 0, .inl 0), (51, .ldc2_w 249, 3, 0, 0, 0, .inr (.inl (lN 1000000))), (54, .goto 18, 3, 72, 0, 0, .inl 0)])
  | 57 => (71, [(57, .lload_n 3, 1, 3, 0, 0, .inl 0), (58, .ldc2_w 251, 3, 0, 0, 0, .inr (.inl (-1000000))), (61, .lcmp, 1, 0, 0, 0, .inl 0), (62, .ifCond .ge 9, 3, 71, 0, 0, .inl 0), (65, .ldc2_w 251, 3, 0, 0, 0, .inr (.inl (-1000000))), (68, .goto 4, 3, 72, 0, 0, .inl 0)])
  | 71 => (72, [(71, .lload_n 3, 1, 3, 0, 0, .inl 0)])
  | 72 => (74, [(72, .l2i, 1, 0, 0, 0, .inl 0), (73, .ireturn, 1, 0, 0, 0, .inl 0)])
  | 74 => (90, [(74, .iload_n 0, 1, 0, 0, 0, .inl 0), (75, .sipush 3003, 3, 0, 0, 0, .inl (nI 3003)), (78, .if_icmp .ne 16, 3, 94, 0, 0, .inl 0), (81, .iload_n 1, 1, 1, 0, 0, .inl 0), (82, .iload_n 2, 1, 2, 0, 0, .inl 0), (83, .if_icmp .ne 7, 3, 90, 0, 0, .inl 0), (86, .iconst 1, 1, 0, 0, 0, .inl (nI 1)), (87, .goto 80, 3, 167, 0, 0, .inl 0)])
  | 90 => (94, [(90, .iconst 0, 1, 0, 0, 0, .inl (nI 0)), (91, .goto 76, 3, 167, 0, 0, .inl 0)])
  | 94 => (106, [(94, .iload_n 0, 1, 0, 0, 0, .inl 0), (95, .sipush 3004, 3, 0, 0, 0, .inl (nI 3004)), (98, .if_icmp .ne 16, 3, 114, 0, 0, .inl 0), (101, .iload_n 1, 1, 1, 0, 0, .inl 0), (102, .iload_n 2, 1, 2, 0, 0, .inl 0), (103, .if_icmp .ge 7, 3, 110, 0, 0, .inl 0)])
  | 106 => (110, [(106, .iconst 1, 1, 0, 0, 0, .inl (nI 1)), (107, .goto 60, 3, 167, 0, 0, .inl 0)])
  | 110 => (114, [(110, .iconst 0, 1, 0, 0, 0, .inl (nI 0)), (111, .goto 56, 3, 167, 0, 0, .inl 0)])
  | 114 => (121, [(114, .iload_n 0, 1, 0, 0, 0, .inl 0), (115, .sipush 3005, 3, 0, 0, 0, .inl (nI 3005)), (118, .if_icmp .ne 16, 3, 134, 0, 0, .inl 0)])
  | 121 => (130, [(121, .iload_n 1, 1, 1, 0, 0, .inl 0), (122, .iload_n 2, 1, 2, 0, 0, .inl 0), (123, .if_icmp .le 7, 3, 130, 0, 0, .inl 0), (126, .iconst 1, 1, 0, 0, 0, .inl (nI 1)), (127, .goto 40, 3, 167, 0, 0, .inl 0)])
  | 130 => (134, [(130, .iconst 0, 1, 0, 0, 0, .inl (nI 0)), (131, .goto 36, 3, 167, 0, 0, .inl 0)])
  | 134 => (152, [(134, .iload_n 0, 1, 0, 0, 0, .inl 0), (135, .sipush 3006, 3, 0, 0, 0, .inl (nI 3006)), (138, .if_icmp .ne 18, 3, 156, 0, 0, .inl 0), (141, .iload_n 1, 1, 1, 0, 0, .inl 0), (142, .iload_n 2, 1, 2, 0, 0, .inl 0), (143, .iadd, 1, 0, 0, 0, .inl 0), (144, .iconst 2, 1, 0, 0, 0, .inl (nI 2)), (145, .if_icmp .ne 7, 3, 152, 0, 0, .inl 0), (148, .iconst 1, 1, 0, 0, 0, .inl (nI 1)), (149, .goto 18, 3, 167, 0, 0, .inl 0)])
  | 152 => (156, [(152, .iconst 0, 1, 0, 0, 0, .inl (nI 0)), (153, .goto 14, 3, 167, 0, 0, .inl 0)])
  | 156 => (166, [(156, .iload_n 1, 1, 1, 0, 0, .inl 0), (157, .iload_n 2, 1, 2, 0, 0, .inl 0), (158, .iadd, 1, 0, 0, 0, .inl 0), (159, .ifCond .le 7, 3, 166, 0, 0, .inl 0), (162, .iconst 1, 1, 0, 0, 0, .inl (nI 1)), (163, .goto 4, 3, 167, 0, 0, .inl 0)])
  | 166 => (167, [(166, .iconst 0, 1, 0, 0, 0, .inl (nI 0))])
  | 167 => (168, [(167, .istore_n 3, 1, 3, 0, 0, .inl 0)])
  | 168 => (176, [(168, .iload_n 3, 1, 3, 0, 0, .inl 0), (169, .ifCond .eq 7, 3, 176, 0, 0, .inl 0), (172, .iconst 1, 1, 0, 0, 0, .inl (nI 1)), (173, .goto 4, 3, 177, 0, 0, .inl 0)])
  | 176 => (177, [(176, .iconst 0, 1, 0, 0, 0, .inl (nI 0))])
  | 177 => (178, [(177, .ireturn, 1, 0, 0, 0, .inl 0)])
  | n => (n, [])
theorem ck_47 : ∀ pc, px_cks pn_i47 (bk_47 pc).1 pc (bk_47 pc).2 = true := by
  intro pc
  unfold bk_47
  split <;> first | decide +kernel | simp [px_cks]
/-- NoThreeModel.ruleHolds(II)Z -/
def bk_48 : Nat → Nat × List px_E := fun pc => match pc with
  | 0 => (5, [(0, .iconst 0, 1, 0, 0, 0, .inl (nI 0)), (1, .istore_n 3, 1, 3, 0, 0, .inl 0), (2, .iconst 0, 1, 0, 0, 0, .inl (nI 0)), (3, .istore 4, 2, 4, 0, 0, .inl 0)])
  | 5 => (52, [(5, .iload 4, 2, 4, 0, 0, .inl 0), (7, .aload_n 0, 1, 0, 0, 0, .inl 0), (8, .getfield 13, 3, 0, 1, 2, .inl 0), (11, .sipush 165, 3, 0, 0, 0, .inl (nI 165)), (14, .iload_n 1, 1, 1, 0, 0, .inl 0), (15, .iadd, 1, 0, 0, 0, .inl 0), (16, .iaload, 1, 0, 0, 0, .inl 0), (17, .if_icmp .ge 119, 3, 136, 0, 0, .inl 0), (20, .aload_n 0, 1, 0, 0, 0, .inl 0), (21, .getfield 13, 3, 0, 1, 2, .inl 0), (24, .sipush 172, 3, 0, 0, 0, .inl (nI 172)), (27, .aload_n 0, 1, 0, 0, 0, .inl 0), (28, .getfield 13, 3, 0, 1, 2, .inl 0), (31, .sipush 159, 3, 0, 0, 0, .inl (nI 159)), (34, .iload_n 1, 1, 1, 0, 0, .inl 0), (35, .iadd, 1, 0, 0, 0, .inl 0), (36, .iaload, 1, 0, 0, 0, .inl 0), (37, .iadd, 1, 0, 0, 0, .inl 0), (38, .iload 4, 2, 4, 0, 0, .inl 0), (40, .iadd, 1, 0, 0, 0, .inl 0), (41, .iaload, 1, 0, 0, 0, .inl 0), (42, .istore 5, 2, 5, 0, 0, .inl 0), (44, .iload 5, 2, 5, 0, 0, .inl 0), (46, .sipush 3000, 3, 0, 0, 0, .inl (nI 3000)), (49, .if_icmp .ge 22, 3, 71, 0, 0, .inl 0)])
  | 52 => (71, [(52, .aload_n 0, 1, 0, 0, 0, .inl 0), (53, .getfield 36, 3, 0, 17, 2, .inl 0), (56, .iload_n 3, 1, 3, 0, 0, .inl 0), (57, .aload_n 0, 1, 0, 0, 0, .inl 0), (58, .iload 5, 2, 5, 0, 0, .inl 0), (60, .iload_n 2, 1, 2, 0, 0, .inl 0), (61, .invokevirtual 253, 3, 46, 3, 0, .inl 0), (64, .iastore, 1, 0, 0, 0, .inl 0), (65, .iinc 3 1, 3, 3, 0, 0, .inl (nI 1)), (68, .goto 62, 3, 130, 0, 0, .inl 0)])
  | 71 => (100, [(71, .iload 5, 2, 5, 0, 0, .inl 0), (73, .sipush 3008, 3, 0, 0, 0, .inl (nI 3008)), (76, .if_icmp .ne 24, 3, 100, 0, 0, .inl 0), (79, .aload_n 0, 1, 0, 0, 0, .inl 0), (80, .getfield 36, 3, 0, 17, 2, .inl 0), (83, .iload_n 3, 1, 3, 0, 0, .inl 0), (84, .iconst 1, 1, 0, 0, 0, .inl (nI 1)), (85, .isub, 1, 0, 0, 0, .inl 0), (86, .iconst 1, 1, 0, 0, 0, .inl (nI 1)), (87, .aload_n 0, 1, 0, 0, 0, .inl 0), (88, .getfield 36, 3, 0, 17, 2, .inl 0), (91, .iload_n 3, 1, 3, 0, 0, .inl 0), (92, .iconst 1, 1, 0, 0, 0, .inl (nI 1)), (93, .isub, 1, 0, 0, 0, .inl 0), (94, .iaload, 1, 0, 0, 0, .inl 0), (95, .isub, 1, 0, 0, 0, .inl 0), (96, .iastore, 1, 0, 0, 0, .inl 0), (97, .goto 33, 3, 130, 0, 0, .inl 0)])
  | 100 => (130, [(100, .iinc 3 (-1), 3, 3, 0, 0, .inl (-1)), (103, .aload_n 0, 1, 0, 0, 0, .inl 0), (104, .getfield 36, 3, 0, 17, 2, .inl 0), (107, .iload_n 3, 1, 3, 0, 0, .inl 0), (108, .iconst 1, 1, 0, 0, 0, .inl (nI 1)), (109, .isub, 1, 0, 0, 0, .inl 0), (110, .iload 5, 2, 5, 0, 0, .inl 0), (112, .aload_n 0, 1, 0, 0, 0, .inl 0), (113, .getfield 36, 3, 0, 17, 2, .inl 0), (116, .iload_n 3, 1, 3, 0, 0, .inl 0), (117, .iconst 1, 1, 0, 0, 0, .inl (nI 1)), (118, .isub, 1, 0, 0, 0, .inl 0), (119, .iaload, 1, 0, 0, 0, .inl 0), (120, .aload_n 0, 1, 0, 0, 0, .inl 0), (121, .getfield 36, 3, 0, 17, 2, .inl 0), (124, .iload_n 3, 1, 3, 0, 0, .inl 0), (125, .iaload, 1, 0, 0, 0, .inl 0), (126, .invokestatic 256, 3, 47, 3, 0, .inl 0), (129, .iastore, 1, 0, 0, 0, .inl 0)])
  | 130 => (136, [(130, .iinc 4 1, 3, 4, 0, 0, .inl (nI 1)), (133, .goto (-128), 3, 5, 0, 0, .inl 0)])
  | 136 => (150, [(136, .aload_n 0, 1, 0, 0, 0, .inl 0), (137, .getfield 36, 3, 0, 17, 2, .inl 0), (140, .iconst 0, 1, 0, 0, 0, .inl (nI 0)), (141, .iaload, 1, 0, 0, 0, .inl 0), (142, .iconst 1, 1, 0, 0, 0, .inl (nI 1)), (143, .if_icmp .ne 7, 3, 150, 0, 0, .inl 0), (146, .iconst 1, 1, 0, 0, 0, .inl (nI 1)), (147, .goto 4, 3, 151, 0, 0, .inl 0)])
  | 150 => (151, [(150, .iconst 0, 1, 0, 0, 0, .inl (nI 0))])
  | 151 => (152, [(151, .ireturn, 1, 0, 0, 0, .inl 0)])
  | n => (n, [])
theorem ck_48 : ∀ pc, px_cks pn_i48 (bk_48 pc).1 pc (bk_48 pc).2 = true := by
  intro pc
  unfold bk_48
  split <;> first | decide +kernel | simp [px_cks]
/-- NoThreeModel.holds(II)I -/
def bk_49 : Nat → Nat × List px_E := fun pc => match pc with
  | 0 => (34, [(0, .aload_n 0, 1, 0, 0, 0, .inl 0), (1, .iconst 0, 1, 0, 0, 0, .inl (nI 0)), (2, .putfield 1, 3, 0, 0, 0, .inl 0), (5, .iload_n 1, 1, 1, 0, 0, .inl 0), (6, .i2l, 1, 0, 0, 0, .inl 0), (7, .lconst 0, 1, 0, 0, 0, .inr (.inl (lN 0))), (8, .aload_n 0, 1, 0, 0, 0, .inl 0), (9, .getfield 13, 3, 0, 1, 2, .inl 0), (12, .sipush 158, 3, 0, 0, 0, .inl (nI 158)), (15, .iaload, 1, 0, 0, 0, .inl 0), (16, .iconst 1, 1, 0, 0, 0, .inl (nI 1)), (17, .isub, 1, 0, 0, 0, .inl 0), (18, .i2l, 1, 0, 0, 0, .inl 0), (19, .invokestatic 141, 3, 2, 3, 0, .inl 0), (22, .ifCond .eq 12, 3, 34, 0, 0, .inl 0), (25, .aload_n 0, 1, 0, 0, 0, .inl 0), (26, .iload_n 2, 1, 2, 0, 0, .inl 0), (27, .i2l, 1, 0, 0, 0, .inl 0), (28, .invokevirtual 214, 3, 30, 2, 0, .inl 0), (31, .ifCond .ne 6, 3, 37, 0, 0, .inl 0)])
  | 34 => (37, [(34, .bipush (-2), 2, 0, 0, 0, .inl (-2)), (36, .ireturn, 1, 0, 0, 0, .inl 0)])
  | 37 => (50, [(37, .aload_n 0, 1, 0, 0, 0, .inl 0), (38, .iload_n 1, 1, 1, 0, 0, .inl 0), (39, .iload_n 2, 1, 2, 0, 0, .inl 0), (40, .invokevirtual 260, 3, 48, 3, 0, .inl 0), (43, .ifCond .eq 7, 3, 50, 0, 0, .inl 0), (46, .iconst 1, 1, 0, 0, 0, .inl (nI 1)), (47, .goto 4, 3, 51, 0, 0, .inl 0)])
  | 50 => (51, [(50, .iconst 0, 1, 0, 0, 0, .inl (nI 0))])
  | 51 => (52, [(51, .ireturn, 1, 0, 0, 0, .inl 0)])
  | n => (n, [])
theorem ck_49 : ∀ pc, px_cks pn_i49 (bk_49 pc).1 pc (bk_49 pc).2 = true := by
  intro pc
  unfold bk_49
  split <;> first | decide +kernel | simp [px_cks]
/-- NoThreeModel.broken(I)I -/
def bk_50 : Nat → Nat × List px_E := fun pc => match pc with
  | 0 => (18, [(0, .aload_n 0, 1, 0, 0, 0, .inl 0), (1, .iconst 0, 1, 0, 0, 0, .inl (nI 0)), (2, .putfield 1, 3, 0, 0, 0, .inl 0), (5, .iload_n 1, 1, 1, 0, 0, .inl 0), (6, .i2l, 1, 0, 0, 0, .inl 0), (7, .lconst 0, 1, 0, 0, 0, .inr (.inl (lN 0))), (8, .lconst 1, 1, 0, 0, 0, .inr (.inl (lN 1))), (9, .invokestatic 141, 3, 2, 3, 0, .inl 0), (12, .ifCond .ne 6, 3, 18, 0, 0, .inl 0), (15, .bipush (-2), 2, 0, 0, 0, .inl (-2)), (17, .ireturn, 1, 0, 0, 0, .inl 0)])
  | 18 => (20, [(18, .iconst 0, 1, 0, 0, 0, .inl (nI 0)), (19, .istore_n 2, 1, 2, 0, 0, .inl 0)])
  | 20 => (32, [(20, .iload_n 2, 1, 2, 0, 0, .inl 0), (21, .aload_n 0, 1, 0, 0, 0, .inl 0), (22, .getfield 13, 3, 0, 1, 2, .inl 0), (25, .iconst 1, 1, 0, 0, 0, .inl (nI 1)), (26, .iaload, 1, 0, 0, 0, .inl 0), (27, .if_icmp .ge 48, 3, 75, 0, 0, .inl 0), (30, .iconst 0, 1, 0, 0, 0, .inl (nI 0)), (31, .istore_n 3, 1, 3, 0, 0, .inl 0)])
  | 32 => (61, [(32, .iload_n 3, 1, 3, 0, 0, .inl 0), (33, .aload_n 0, 1, 0, 0, 0, .inl 0), (34, .getfield 13, 3, 0, 1, 2, .inl 0), (37, .sipush 158, 3, 0, 0, 0, .inl (nI 158)), (40, .iaload, 1, 0, 0, 0, .inl 0), (41, .if_icmp .ge 28, 3, 69, 0, 0, .inl 0), (44, .aload_n 0, 1, 0, 0, 0, .inl 0), (45, .iload_n 3, 1, 3, 0, 0, .inl 0), (46, .iload_n 2, 1, 2, 0, 0, .inl 0), (47, .invokevirtual 260, 3, 48, 3, 0, .inl 0), (50, .ifCond .ne 13, 3, 63, 0, 0, .inl 0), (53, .iload_n 1, 1, 1, 0, 0, .inl 0), (54, .ifCond .ne 7, 3, 61, 0, 0, .inl 0), (57, .iload_n 2, 1, 2, 0, 0, .inl 0), (58, .goto 4, 3, 62, 0, 0, .inl 0)])
  | 61 => (62, [(61, .iload_n 3, 1, 3, 0, 0, .inl 0)])
  | 62 => (63, [(62, .ireturn, 1, 0, 0, 0, .inl 0)])
  | 63 => (69, [(63, .iinc 3 1, 3, 3, 0, 0, .inl (nI 1)), (66, .goto (-34), 3, 32, 0, 0, .inl 0)])
  | 69 => (75, [(69, .iinc 2 1, 3, 2, 0, 0, .inl (nI 1)), (72, .goto (-52), 3, 20, 0, 0, .inl 0)])
  | 75 => (77, [(75, .iconst (-1), 1, 0, 0, 0, .inl (-1)), (76, .ireturn, 1, 0, 0, 0, .inl 0)])
  | n => (n, [])
theorem ck_50 : ∀ pc, px_cks pn_i50 (bk_50 pc).1 pc (bk_50 pc).2 = true := by
  intro pc
  unfold bk_50
  split <;> first | decide +kernel | simp [px_cks]
/-- NoThreeModel.breaches()I -/
def bk_51 : Nat → Nat × List px_E := fun pc => match pc with
  | 0 => (9, [(0, .aload_n 0, 1, 0, 0, 0, .inl 0), (1, .iconst 0, 1, 0, 0, 0, .inl (nI 0)), (2, .putfield 1, 3, 0, 0, 0, .inl 0), (5, .iconst 0, 1, 0, 0, 0, .inl (nI 0)), (6, .istore_n 1, 1, 1, 0, 0, .inl 0), (7, .iconst 0, 1, 0, 0, 0, .inl (nI 0)), (8, .istore_n 2, 1, 2, 0, 0, .inl 0)])
  | 9 => (21, [(9, .iload_n 2, 1, 2, 0, 0, .inl 0), (10, .aload_n 0, 1, 0, 0, 0, .inl 0), (11, .getfield 13, 3, 0, 1, 2, .inl 0), (14, .iconst 1, 1, 0, 0, 0, .inl (nI 1)), (15, .iaload, 1, 0, 0, 0, .inl 0), (16, .if_icmp .ge 46, 3, 62, 0, 0, .inl 0), (19, .iconst 0, 1, 0, 0, 0, .inl (nI 0)), (20, .istore_n 3, 1, 3, 0, 0, .inl 0)])
  | 21 => (47, [(21, .iload_n 3, 1, 3, 0, 0, .inl 0), (22, .aload_n 0, 1, 0, 0, 0, .inl 0), (23, .getfield 13, 3, 0, 1, 2, .inl 0), (26, .sipush 158, 3, 0, 0, 0, .inl (nI 158)), (29, .iaload, 1, 0, 0, 0, .inl 0), (30, .if_icmp .ge 26, 3, 56, 0, 0, .inl 0), (33, .iload_n 1, 1, 1, 0, 0, .inl 0), (34, .aload_n 0, 1, 0, 0, 0, .inl 0), (35, .iload_n 3, 1, 3, 0, 0, .inl 0), (36, .iload_n 2, 1, 2, 0, 0, .inl 0), (37, .invokevirtual 260, 3, 48, 3, 0, .inl 0), (40, .ifCond .eq 7, 3, 47, 0, 0, .inl 0), (43, .iconst 0, 1, 0, 0, 0, .inl (nI 0)), (44, .goto 4, 3, 48, 0, 0, .inl 0)])
  | 47 => (48, [(47, .iconst 1, 1, 0, 0, 0, .inl (nI 1))])
  | 48 => (50, [(48, .iadd, 1, 0, 0, 0, .inl 0), (49, .istore_n 1, 1, 1, 0, 0, .inl 0)])
  | 50 => (56, [(50, .iinc 3 1, 3, 3, 0, 0, .inl (nI 1)), (53, .goto (-32), 3, 21, 0, 0, .inl 0)])
  | 56 => (62, [(56, .iinc 2 1, 3, 2, 0, 0, .inl (nI 1)), (59, .goto (-50), 3, 9, 0, 0, .inl 0)])
  | 62 => (64, [(62, .iload_n 1, 1, 1, 0, 0, .inl 0), (63, .ireturn, 1, 0, 0, 0, .inl 0)])
  | n => (n, [])
theorem ck_51 : ∀ pc, px_cks pn_i51 (bk_51 pc).1 pc (bk_51 pc).2 = true := by
  intro pc
  unfold bk_51
  split <;> first | decide +kernel | simp [px_cks]
/-- NoThreeModel.keeps([I)V -/
def bk_52 : Nat → Nat × List px_E := fun pc => match pc with
  | 0 => (2, [(0, .iconst 0, 1, 0, 0, 0, .inl (nI 0)), (1, .istore_n 2, 1, 2, 0, 0, .inl 0)])
  | 2 => (25, [(2, .iload_n 2, 1, 2, 0, 0, .inl 0), (3, .bipush 12, 2, 0, 0, 0, .inl (nI 12)), (5, .if_icmp .ge 20, 3, 25, 0, 0, .inl 0), (8, .aload_n 1, 1, 1, 0, 0, .inl 0), (9, .iload_n 2, 1, 2, 0, 0, .inl 0), (10, .aload_n 0, 1, 0, 0, 0, .inl 0), (11, .getfield 13, 3, 0, 1, 2, .inl 0), (14, .iconst 1, 1, 0, 0, 0, .inl (nI 1)), (15, .iload_n 2, 1, 2, 0, 0, .inl 0), (16, .iadd, 1, 0, 0, 0, .inl 0), (17, .iaload, 1, 0, 0, 0, .inl 0), (18, .iastore, 1, 0, 0, 0, .inl 0), (19, .iinc 2 1, 3, 2, 0, 0, .inl (nI 1)), (22, .goto (-20), 3, 2, 0, 0, .inl 0)])
  | 25 => (26, [(25, .return_, 1, 0, 0, 0, .inl 0)])
  | n => (n, [])
theorem ck_52 : ∀ pc, px_cks pn_i52 (bk_52 pc).1 pc (bk_52 pc).2 = true := by
  intro pc
  unfold bk_52
  split <;> first | decide +kernel | simp [px_cks]
/-- NoThreeModel.isAgain([I)V -/
def bk_53 : Nat → Nat × List px_E := fun pc => match pc with
  | 0 => (2, [(0, .iconst 0, 1, 0, 0, 0, .inl (nI 0)), (1, .istore_n 2, 1, 2, 0, 0, .inl 0)])
  | 2 => (25, [(2, .iload_n 2, 1, 2, 0, 0, .inl 0), (3, .bipush 12, 2, 0, 0, 0, .inl (nI 12)), (5, .if_icmp .ge 20, 3, 25, 0, 0, .inl 0), (8, .aload_n 0, 1, 0, 0, 0, .inl 0), (9, .getfield 13, 3, 0, 1, 2, .inl 0), (12, .iconst 1, 1, 0, 0, 0, .inl (nI 1)), (13, .iload_n 2, 1, 2, 0, 0, .inl 0), (14, .iadd, 1, 0, 0, 0, .inl 0), (15, .aload_n 1, 1, 1, 0, 0, .inl 0), (16, .iload_n 2, 1, 2, 0, 0, .inl 0), (17, .iaload, 1, 0, 0, 0, .inl 0), (18, .iastore, 1, 0, 0, 0, .inl 0), (19, .iinc 2 1, 3, 2, 0, 0, .inl (nI 1)), (22, .goto (-20), 3, 2, 0, 0, .inl 0)])
  | 25 => (26, [(25, .return_, 1, 0, 0, 0, .inl 0)])
  | n => (n, [])
theorem ck_53 : ∀ pc, px_cks pn_i53 (bk_53 pc).1 pc (bk_53 pc).2 = true := by
  intro pc
  unfold bk_53
  split <;> first | decide +kernel | simp [px_cks]
/-- NoThreeModel.heldBy(I)I -/
def bk_54 : Nat → Nat × List px_E := fun pc => match pc with
  | 0 => (4, [(0, .iconst 0, 1, 0, 0, 0, .inl (nI 0)), (1, .istore_n 2, 1, 2, 0, 0, .inl 0), (2, .iconst 0, 1, 0, 0, 0, .inl (nI 0)), (3, .istore_n 3, 1, 3, 0, 0, .inl 0)])
  | 4 => (32, [(4, .iload_n 3, 1, 3, 0, 0, .inl 0), (5, .aload_n 0, 1, 0, 0, 0, .inl 0), (6, .getfield 13, 3, 0, 1, 2, .inl 0), (9, .sipush 158, 3, 0, 0, 0, .inl (nI 158)), (12, .iaload, 1, 0, 0, 0, .inl 0), (13, .if_icmp .ge 28, 3, 41, 0, 0, .inl 0), (16, .iload_n 2, 1, 2, 0, 0, .inl 0), (17, .aload_n 0, 1, 0, 0, 0, .inl 0), (18, .iload_n 3, 1, 3, 0, 0, .inl 0), (19, .iload_n 1, 1, 1, 0, 0, .inl 0), (20, .invokevirtual 260, 3, 48, 3, 0, .inl 0), (23, .ifCond .eq 9, 3, 32, 0, 0, .inl 0), (26, .iconst 1, 1, 0, 0, 0, .inl (nI 1)), (27, .iload_n 3, 1, 3, 0, 0, .inl 0), (28, .ishl, 1, 0, 0, 0, .inl 0), (29, .goto 4, 3, 33, 0, 0, .inl 0)])
  | 32 => (33, [(32, .iconst 0, 1, 0, 0, 0, .inl (nI 0))])
  | 33 => (35, [(33, .ior, 1, 0, 0, 0, .inl 0), (34, .istore_n 2, 1, 2, 0, 0, .inl 0)])
  | 35 => (41, [(35, .iinc 3 1, 3, 3, 0, 0, .inl (nI 1)), (38, .goto (-34), 3, 4, 0, 0, .inl 0)])
  | 41 => (43, [(41, .iload_n 2, 1, 2, 0, 0, .inl 0), (42, .ireturn, 1, 0, 0, 0, .inl 0)])
  | n => (n, [])
theorem ck_54 : ∀ pc, px_cks pn_i54 (bk_54 pc).1 pc (bk_54 pc).2 = true := by
  intro pc
  unfold bk_54
  split <;> first | decide +kernel | simp [px_cks]
/-- NoThreeModel.laysHeld()V -/
def bk_55 : Nat → Nat × List px_E := fun pc => match pc with
  | 0 => (2, [(0, .iconst 0, 1, 0, 0, 0, .inl (nI 0)), (1, .istore_n 1, 1, 1, 0, 0, .inl 0)])
  | 2 => (29, [(2, .iload_n 1, 1, 1, 0, 0, .inl 0), (3, .aload_n 0, 1, 0, 0, 0, .inl 0), (4, .getfield 13, 3, 0, 1, 2, .inl 0), (7, .iconst 1, 1, 0, 0, 0, .inl (nI 1)), (8, .iaload, 1, 0, 0, 0, .inl 0), (9, .if_icmp .ge 20, 3, 29, 0, 0, .inl 0), (12, .aload_n 0, 1, 0, 0, 0, .inl 0), (13, .getfield 42, 3, 0, 19, 2, .inl 0), (16, .iload_n 1, 1, 1, 0, 0, .inl 0), (17, .aload_n 0, 1, 0, 0, 0, .inl 0), (18, .iload_n 1, 1, 1, 0, 0, .inl 0), (19, .invokevirtual 264, 3, 54, 2, 0, .inl 0), (22, .iastore, 1, 0, 0, 0, .inl 0), (23, .iinc 1 1, 3, 1, 0, 0, .inl (nI 1)), (26, .goto (-24), 3, 2, 0, 0, .inl 0)])
  | 29 => (30, [(29, .return_, 1, 0, 0, 0, .inl 0)])
  | n => (n, [])
theorem ck_55 : ∀ pc, px_cks pn_i55 (bk_55 pc).1 pc (bk_55 pc).2 = true := by
  intro pc
  unfold bk_55
  split <;> first | decide +kernel | simp [px_cks]
/-- NoThreeModel.stillHold(I)Z -/
def bk_56 : Nat → Nat × List px_E := fun pc => match pc with
  | 0 => (2, [(0, .iconst 0, 1, 0, 0, 0, .inl (nI 0)), (1, .istore_n 2, 1, 2, 0, 0, .inl 0)])
  | 2 => (26, [(2, .iload_n 2, 1, 2, 0, 0, .inl 0), (3, .aload_n 0, 1, 0, 0, 0, .inl 0), (4, .getfield 13, 3, 0, 1, 2, .inl 0), (7, .iconst 1, 1, 0, 0, 0, .inl (nI 1)), (8, .iaload, 1, 0, 0, 0, .inl 0), (9, .if_icmp .ge 49, 3, 58, 0, 0, .inl 0), (12, .iload_n 2, 1, 2, 0, 0, .inl 0), (13, .iload_n 1, 1, 1, 0, 0, .inl 0), (14, .if_icmp .ge 12, 3, 26, 0, 0, .inl 0), (17, .aload_n 0, 1, 0, 0, 0, .inl 0), (18, .getfield 42, 3, 0, 19, 2, .inl 0), (21, .iload_n 2, 1, 2, 0, 0, .inl 0), (22, .iaload, 1, 0, 0, 0, .inl 0), (23, .goto 15, 3, 38, 0, 0, .inl 0)])
  | 26 => (38, [(26, .iconst 1, 1, 0, 0, 0, .inl (nI 1)), (27, .aload_n 0, 1, 0, 0, 0, .inl 0), (28, .getfield 13, 3, 0, 1, 2, .inl 0), (31, .sipush 158, 3, 0, 0, 0, .inl (nI 158)), (34, .iaload, 1, 0, 0, 0, .inl 0), (35, .ishl, 1, 0, 0, 0, .inl 0), (36, .iconst 1, 1, 0, 0, 0, .inl (nI 1)), (37, .isub, 1, 0, 0, 0, .inl 0)])
  | 38 => (39, [(38, .istore_n 3, 1, 3, 0, 0, .inl 0)])
  | 39 => (52, [(39, .aload_n 0, 1, 0, 0, 0, .inl 0), (40, .iload_n 2, 1, 2, 0, 0, .inl 0), (41, .invokevirtual 264, 3, 54, 2, 0, .inl 0), (44, .iload_n 3, 1, 3, 0, 0, .inl 0), (45, .iand, 1, 0, 0, 0, .inl 0), (46, .iload_n 3, 1, 3, 0, 0, .inl 0), (47, .if_icmp .eq 5, 3, 52, 0, 0, .inl 0), (50, .iconst 0, 1, 0, 0, 0, .inl (nI 0)), (51, .ireturn, 1, 0, 0, 0, .inl 0)])
  | 52 => (58, [(52, .iinc 2 1, 3, 2, 0, 0, .inl (nI 1)), (55, .goto (-53), 3, 2, 0, 0, .inl 0)])
  | 58 => (60, [(58, .iconst 1, 1, 0, 0, 0, .inl (nI 1)), (59, .ireturn, 1, 0, 0, 0, .inl 0)])
  | n => (n, [])
theorem ck_56 : ∀ pc, px_cks pn_i56 (bk_56 pc).1 pc (bk_56 pc).2 = true := by
  intro pc
  unfold bk_56
  split <;> first | decide +kernel | simp [px_cks]
/-- NoThreeModel.refusesJoin(JJ)I -/
def bk_57 : Nat → Nat × List px_E := fun pc => match pc with
  | 0 => (16, [(0, .aload_n 0, 1, 0, 0, 0, .inl 0), (1, .lload_n 1, 1, 1, 0, 0, .inl 0), (2, .invokevirtual 214, 3, 30, 2, 0, .inl 0), (5, .ifCond .eq 17, 3, 22, 0, 0, .inl 0), (8, .aload_n 0, 1, 0, 0, 0, .inl 0), (9, .lload_n 3, 1, 3, 0, 0, .inl 0), (10, .invokevirtual 214, 3, 30, 2, 0, .inl 0), (13, .ifCond .eq 9, 3, 22, 0, 0, .inl 0)])
  | 16 => (22, [(16, .lload_n 1, 1, 1, 0, 0, .inl 0), (17, .lload_n 3, 1, 3, 0, 0, .inl 0), (18, .lcmp, 1, 0, 0, 0, .inl 0), (19, .ifCond .ne 5, 3, 24, 0, 0, .inl 0)])
  | 22 => (24, [(22, .iconst 1, 1, 0, 0, 0, .inl (nI 1)), (23, .ireturn, 1, 0, 0, 0, .inl 0)])
  | 24 => (28, [(24, .lload_n 1, 1, 1, 0, 0, .inl 0), (25, .l2i, 1, 0, 0, 0, .inl 0), (26, .istore 5, 2, 5, 0, 0, .inl 0)])
  | 28 => (47, [(28, .lload_n 3, 1, 3, 0, 0, .inl 0), (29, .l2i, 1, 0, 0, 0, .inl 0), (30, .istore 6, 2, 6, 0, 0, .inl 0), (32, .aload_n 0, 1, 0, 0, 0, .inl 0), (33, .iload 5, 2, 5, 0, 0, .inl 0), (35, .invokevirtual 205, 3, 31, 2, 0, .inl 0), (38, .i2l, 1, 0, 0, 0, .inl 0), (39, .iload 6, 2, 6, 0, 0, .inl 0), (41, .invokestatic 151, 3, 14, 2, 0, .inl 0), (44, .ifCond .eq 5, 3, 49, 0, 0, .inl 0)])
  | 47 => (49, [(47, .iconst 2, 1, 0, 0, 0, .inl (nI 2)), (48, .ireturn, 1, 0, 0, 0, .inl 0)])
  | 49 => (65, [(49, .aload_n 0, 1, 0, 0, 0, .inl 0), (50, .iload 5, 2, 5, 0, 0, .inl 0), (52, .invokevirtual 205, 3, 31, 2, 0, .inl 0), (55, .aload_n 0, 1, 0, 0, 0, .inl 0), (56, .iload 6, 2, 6, 0, 0, .inl 0), (58, .invokevirtual 205, 3, 31, 2, 0, .inl 0), (61, .iand, 1, 0, 0, 0, .inl 0), (62, .ifCond .eq 5, 3, 67, 0, 0, .inl 0)])
  | 65 => (67, [(65, .iconst 3, 1, 0, 0, 0, .inl (nI 3)), (66, .ireturn, 1, 0, 0, 0, .inl 0)])
  | 67 => (80, [(67, .aload_n 0, 1, 0, 0, 0, .inl 0), (68, .getfield 13, 3, 0, 1, 2, .inl 0), (71, .sipush 158, 3, 0, 0, 0, .inl (nI 158)), (74, .iaload, 1, 0, 0, 0, .inl 0), (75, .ifCond .ne 5, 3, 80, 0, 0, .inl 0), (78, .iconst 0, 1, 0, 0, 0, .inl (nI 0)), (79, .ireturn, 1, 0, 0, 0, .inl 0)])
  | 80 => (92, [(80, .aload_n 0, 1, 0, 0, 0, .inl 0), (81, .invokevirtual 267, 3, 55, 1, 0, .inl 0), (84, .aload_n 0, 1, 0, 0, 0, .inl 0), (85, .aload_n 0, 1, 0, 0, 0, .inl 0), (86, .getfield 45, 3, 0, 20, 2, .inl 0), (89, .invokevirtual 270, 3, 52, 2, 0, .inl 0)])
  | 92 => (115, [(92, .aload_n 0, 1, 0, 0, 0, .inl 0), (93, .getfield 13, 3, 0, 1, 2, .inl 0), (96, .iload 5, 2, 5, 0, 0, .inl 0), (98, .iload 6, 2, 6, 0, 0, .inl 0), (100, .invokestatic 155, 3, 15, 3, 0, .inl 0), (103, .aload_n 0, 1, 0, 0, 0, .inl 0), (104, .aload_n 0, 1, 0, 0, 0, .inl 0), (105, .getfield 13, 3, 0, 1, 2, .inl 0), (108, .iconst 1, 1, 0, 0, 0, .inl (nI 1)), (109, .iaload, 1, 0, 0, 0, .inl 0), (110, .invokevirtual 274, 3, 56, 2, 0, .inl 0), (113, .istore 7, 2, 7, 0, 0, .inl 0)])
  | 115 => (132, [(115, .aload_n 0, 1, 0, 0, 0, .inl 0), (116, .aload_n 0, 1, 0, 0, 0, .inl 0), (117, .getfield 45, 3, 0, 20, 2, .inl 0), (120, .invokevirtual 277, 3, 53, 2, 0, .inl 0), (123, .iload 7, 2, 7, 0, 0, .inl 0), (125, .ifCond .eq 7, 3, 132, 0, 0, .inl 0), (128, .iconst 0, 1, 0, 0, 0, .inl (nI 0)), (129, .goto 4, 3, 133, 0, 0, .inl 0)])
  | 132 => (133, [(132, .iconst 4, 1, 0, 0, 0, .inl (nI 4))])
  | 133 => (134, [(133, .ireturn, 1, 0, 0, 0, .inl 0)])
  | n => (n, [])
theorem ck_57 : ∀ pc, px_cks pn_i57 (bk_57 pc).1 pc (bk_57 pc).2 = true := by
  intro pc
  unfold bk_57
  split <;> first | decide +kernel | simp [px_cks]
/-- NoThreeModel.notes()V -/
def bk_58 : Nat → Nat × List px_E := fun pc => match pc with
  | 0 => (14, [(0, .aload_n 0, 1, 0, 0, 0, .inl 0), (1, .getfield 13, 3, 0, 1, 2, .inl 0), (4, .bipush 13, 2, 0, 0, 0, .inl (nI 13)), (6, .iaload, 1, 0, 0, 0, .inl 0), (7, .bipush 12, 2, 0, 0, 0, .inl (nI 12)), (9, .if_icmp .ne 47, 3, 56, 0, 0, .inl 0), (12, .iconst 0, 1, 0, 0, 0, .inl (nI 0)), (13, .istore_n 1, 1, 1, 0, 0, .inl 0)])
  | 14 => (45, [(14, .iload_n 1, 1, 1, 0, 0, .inl 0), (15, .sipush 132, 3, 0, 0, 0, .inl (nI 132)), (18, .if_icmp .ge 27, 3, 45, 0, 0, .inl 0), (21, .aload_n 0, 1, 0, 0, 0, .inl 0), (22, .getfield 13, 3, 0, 1, 2, .inl 0), (25, .bipush 14, 2, 0, 0, 0, .inl (nI 14)), (27, .iload_n 1, 1, 1, 0, 0, .inl 0), (28, .iadd, 1, 0, 0, 0, .inl 0), (29, .aload_n 0, 1, 0, 0, 0, .inl 0), (30, .getfield 13, 3, 0, 1, 2, .inl 0), (33, .bipush 26, 2, 0, 0, 0, .inl (nI 26)), (35, .iload_n 1, 1, 1, 0, 0, .inl 0), (36, .iadd, 1, 0, 0, 0, .inl 0), (37, .iaload, 1, 0, 0, 0, .inl 0), (38, .iastore, 1, 0, 0, 0, .inl 0), (39, .iinc 1 1, 3, 1, 0, 0, .inl (nI 1)), (42, .goto (-28), 3, 14, 0, 0, .inl 0)])
  | 45 => (56, [(45, .aload_n 0, 1, 0, 0, 0, .inl 0), (46, .getfield 13, 3, 0, 1, 2, .inl 0), (49, .bipush 13, 2, 0, 0, 0, .inl (nI 13)), (51, .dup2, 1, 0, 0, 0, .inl 0), (52, .iaload, 1, 0, 0, 0, .inl 0), (53, .iconst 1, 1, 0, 0, 0, .inl (nI 1)), (54, .isub, 1, 0, 0, 0, .inl 0), (55, .iastore, 1, 0, 0, 0, .inl 0)])
  | 56 => (58, [(56, .iconst 0, 1, 0, 0, 0, .inl (nI 0)), (57, .istore_n 1, 1, 1, 0, 0, .inl 0)])
  | 58 => (98, [(58, .iload_n 1, 1, 1, 0, 0, .inl 0), (59, .bipush 12, 2, 0, 0, 0, .inl (nI 12)), (61, .if_icmp .ge 37, 3, 98, 0, 0, .inl 0), (64, .aload_n 0, 1, 0, 0, 0, .inl 0), (65, .getfield 13, 3, 0, 1, 2, .inl 0), (68, .bipush 14, 2, 0, 0, 0, .inl (nI 14)), (70, .bipush 12, 2, 0, 0, 0, .inl (nI 12)), (72, .aload_n 0, 1, 0, 0, 0, .inl 0), (73, .getfield 13, 3, 0, 1, 2, .inl 0), (76, .bipush 13, 2, 0, 0, 0, .inl (nI 13)), (78, .iaload, 1, 0, 0, 0, .inl 0), (79, .imul, 1, 0, 0, 0, .inl 0), (80, .iadd, 1, 0, 0, 0, .inl 0), (81, .iload_n 1, 1, 1, 0, 0, .inl 0), (82, .iadd, 1, 0, 0, 0, .inl 0), (83, .aload_n 0, 1, 0, 0, 0, .inl 0), (84, .getfield 13, 3, 0, 1, 2, .inl 0), (87, .iconst 1, 1, 0, 0, 0, .inl (nI 1)), (88, .iload_n 1, 1, 1, 0, 0, .inl 0), (89, .iadd, 1, 0, 0, 0, .inl 0), (90, .iaload, 1, 0, 0, 0, .inl 0), (91, .iastore, 1, 0, 0, 0, .inl 0), (92, .iinc 1 1, 3, 1, 0, 0, .inl (nI 1)), (95, .goto (-37), 3, 58, 0, 0, .inl 0)])
  | 98 => (110, [(98, .aload_n 0, 1, 0, 0, 0, .inl 0), (99, .getfield 13, 3, 0, 1, 2, .inl 0), (102, .bipush 13, 2, 0, 0, 0, .inl (nI 13)), (104, .dup2, 1, 0, 0, 0, .inl 0), (105, .iaload, 1, 0, 0, 0, .inl 0), (106, .iconst 1, 1, 0, 0, 0, .inl (nI 1)), (107, .iadd, 1, 0, 0, 0, .inl 0), (108, .iastore, 1, 0, 0, 0, .inl 0), (109, .return_, 1, 0, 0, 0, .inl 0)])
  | n => (n, [])
theorem ck_58 : ∀ pc, px_cks pn_i58 (bk_58 pc).1 pc (bk_58 pc).2 = true := by
  intro pc
  unfold bk_58
  split <;> first | decide +kernel | simp [px_cks]
/-- NoThreeModel.walls(II)V -/
def bk_59 : Nat → Nat × List px_E := fun pc => match pc with
  | 0 => (33, [(0, .aload_n 0, 1, 0, 0, 0, .inl 0), (1, .getfield 13, 3, 0, 1, 2, .inl 0), (4, .iconst 2, 1, 0, 0, 0, .inl (nI 2)), (5, .iload_n 1, 1, 1, 0, 0, .inl 0), (6, .iadd, 1, 0, 0, 0, .inl 0), (7, .dup2, 1, 0, 0, 0, .inl 0), (8, .iaload, 1, 0, 0, 0, .inl 0), (9, .iconst 1, 1, 0, 0, 0, .inl (nI 1)), (10, .iload_n 2, 1, 2, 0, 0, .inl 0), (11, .ishl, 1, 0, 0, 0, .inl 0), (12, .iconst (-1), 1, 0, 0, 0, .inl (-1)), (13, .ixor, 1, 0, 0, 0, .inl 0), (14, .iand, 1, 0, 0, 0, .inl 0), (15, .iastore, 1, 0, 0, 0, .inl 0), (16, .aload_n 0, 1, 0, 0, 0, .inl 0), (17, .getfield 13, 3, 0, 1, 2, .inl 0), (20, .iconst 2, 1, 0, 0, 0, .inl (nI 2)), (21, .iload_n 2, 1, 2, 0, 0, .inl 0), (22, .iadd, 1, 0, 0, 0, .inl 0), (23, .dup2, 1, 0, 0, 0, .inl 0), (24, .iaload, 1, 0, 0, 0, .inl 0), (25, .iconst 1, 1, 0, 0, 0, .inl (nI 1)), (26, .iload_n 1, 1, 1, 0, 0, .inl 0), (27, .ishl, 1, 0, 0, 0, .inl 0), (28, .iconst (-1), 1, 0, 0, 0, .inl (-1)), (29, .ixor, 1, 0, 0, 0, .inl 0), (30, .iand, 1, 0, 0, 0, .inl 0), (31, .iastore, 1, 0, 0, 0, .inl 0), (32, .return_, 1, 0, 0, 0, .inl 0)])
  | n => (n, [])
theorem ck_59 : ∀ pc, px_cks pn_i59 (bk_59 pc).1 pc (bk_59 pc).2 = true := by
  intro pc
  unfold bk_59
  split <;> first | decide +kernel | simp [px_cks]
/-- NoThreeModel.why(II)I -/
def bk_60 : Nat → Nat × List px_E := fun pc => match pc with
  | 0 => (14, [(0, .aload_n 0, 1, 0, 0, 0, .inl 0), (1, .iconst 0, 1, 0, 0, 0, .inl (nI 0)), (2, .putfield 1, 3, 0, 0, 0, .inl 0), (5, .aload_n 0, 1, 0, 0, 0, .inl 0), (6, .iload_n 1, 1, 1, 0, 0, .inl 0), (7, .i2l, 1, 0, 0, 0, .inl 0), (8, .iload_n 2, 1, 2, 0, 0, .inl 0), (9, .i2l, 1, 0, 0, 0, .inl 0), (10, .invokevirtual 280, 3, 57, 3, 0, .inl 0), (13, .ireturn, 1, 0, 0, 0, .inl 0)])
  | n => (n, [])
theorem ck_60 : ∀ pc, px_cks pn_i60 (bk_60 pc).1 pc (bk_60 pc).2 = true := by
  intro pc
  unfold bk_60
  split <;> first | decide +kernel | simp [px_cks]
/-- NoThreeModel.join(II)I -/
def bk_61 : Nat → Nat × List px_E := fun pc => match pc with
  | 0 => (23, [(0, .aload_n 0, 1, 0, 0, 0, .inl 0), (1, .iconst 0, 1, 0, 0, 0, .inl (nI 0)), (2, .putfield 1, 3, 0, 0, 0, .inl 0), (5, .aload_n 0, 1, 0, 0, 0, .inl 0), (6, .iload_n 1, 1, 1, 0, 0, .inl 0), (7, .i2l, 1, 0, 0, 0, .inl 0), (8, .iload_n 2, 1, 2, 0, 0, .inl 0), (9, .i2l, 1, 0, 0, 0, .inl 0), (10, .invokevirtual 280, 3, 57, 3, 0, .inl 0), (13, .istore_n 3, 1, 3, 0, 0, .inl 0), (14, .iload_n 3, 1, 3, 0, 0, .inl 0), (15, .ifCond .eq 8, 3, 23, 0, 0, .inl 0), (18, .bipush (-10), 2, 0, 0, 0, .inl (-10)), (20, .iload_n 3, 1, 3, 0, 0, .inl 0), (21, .isub, 1, 0, 0, 0, .inl 0), (22, .ireturn, 1, 0, 0, 0, .inl 0)])
  | 23 => (27, [(23, .aload_n 0, 1, 0, 0, 0, .inl 0), (24, .invokevirtual 284, 3, 58, 1, 0, .inl 0)])
  | 27 => (41, [(27, .aload_n 0, 1, 0, 0, 0, .inl 0), (28, .getfield 13, 3, 0, 1, 2, .inl 0), (31, .iload_n 1, 1, 1, 0, 0, .inl 0), (32, .iload_n 2, 1, 2, 0, 0, .inl 0), (33, .invokestatic 155, 3, 15, 3, 0, .inl 0), (36, .aload_n 0, 1, 0, 0, 0, .inl 0), (37, .invokevirtual 237, 3, 45, 1, 0, .inl 0), (40, .ireturn, 1, 0, 0, 0, .inl 0)])
  | n => (n, [])
theorem ck_61 : ∀ pc, px_cks pn_i61 (bk_61 pc).1 pc (bk_61 pc).2 = true := by
  intro pc
  unfold bk_61
  split <;> first | decide +kernel | simp [px_cks]
/-- NoThreeModel.wall(II)I -/
def bk_62 : Nat → Nat × List px_E := fun pc => match pc with
  | 0 => (28, [(0, .aload_n 0, 1, 0, 0, 0, .inl 0), (1, .iconst 0, 1, 0, 0, 0, .inl (nI 0)), (2, .putfield 1, 3, 0, 0, 0, .inl 0), (5, .aload_n 0, 1, 0, 0, 0, .inl 0), (6, .iload_n 1, 1, 1, 0, 0, .inl 0), (7, .i2l, 1, 0, 0, 0, .inl 0), (8, .invokevirtual 214, 3, 30, 2, 0, .inl 0), (11, .ifCond .eq 17, 3, 28, 0, 0, .inl 0), (14, .aload_n 0, 1, 0, 0, 0, .inl 0), (15, .iload_n 2, 1, 2, 0, 0, .inl 0), (16, .i2l, 1, 0, 0, 0, .inl 0), (17, .invokevirtual 214, 3, 30, 2, 0, .inl 0), (20, .ifCond .eq 8, 3, 28, 0, 0, .inl 0), (23, .iload_n 1, 1, 1, 0, 0, .inl 0), (24, .iload_n 2, 1, 2, 0, 0, .inl 0), (25, .if_icmp .ne 6, 3, 31, 0, 0, .inl 0)])
  | 28 => (31, [(28, .bipush (-11), 2, 0, 0, 0, .inl (-11)), (30, .ireturn, 1, 0, 0, 0, .inl 0)])
  | 31 => (47, [(31, .aload_n 0, 1, 0, 0, 0, .inl 0), (32, .iload_n 1, 1, 1, 0, 0, .inl 0), (33, .invokevirtual 205, 3, 31, 2, 0, .inl 0), (36, .i2l, 1, 0, 0, 0, .inl 0), (37, .iload_n 2, 1, 2, 0, 0, .inl 0), (38, .invokestatic 151, 3, 14, 2, 0, .inl 0), (41, .ifCond .ne 6, 3, 47, 0, 0, .inl 0), (44, .bipush (-15), 2, 0, 0, 0, .inl (-15)), (46, .ireturn, 1, 0, 0, 0, .inl 0)])
  | 47 => (51, [(47, .aload_n 0, 1, 0, 0, 0, .inl 0), (48, .invokevirtual 284, 3, 58, 1, 0, .inl 0)])
  | 51 => (62, [(51, .aload_n 0, 1, 0, 0, 0, .inl 0), (52, .iload_n 1, 1, 1, 0, 0, .inl 0), (53, .iload_n 2, 1, 2, 0, 0, .inl 0), (54, .invokevirtual 287, 3, 59, 3, 0, .inl 0), (57, .aload_n 0, 1, 0, 0, 0, .inl 0), (58, .invokevirtual 237, 3, 45, 1, 0, .inl 0), (61, .ireturn, 1, 0, 0, 0, .inl 0)])
  | n => (n, [])
theorem ck_62 : ∀ pc, px_cks pn_i62 (bk_62 pc).1 pc (bk_62 pc).2 = true := by
  intro pc
  unfold bk_62
  split <;> first | decide +kernel | simp [px_cks]
/-- NoThreeModel.may(I)I -/
def bk_63 : Nat → Nat × List px_E := fun pc => match pc with
  | 0 => (17, [(0, .aload_n 0, 1, 0, 0, 0, .inl 0), (1, .iconst 0, 1, 0, 0, 0, .inl (nI 0)), (2, .putfield 1, 3, 0, 0, 0, .inl 0), (5, .aload_n 0, 1, 0, 0, 0, .inl 0), (6, .iload_n 1, 1, 1, 0, 0, .inl 0), (7, .i2l, 1, 0, 0, 0, .inl 0), (8, .invokevirtual 214, 3, 30, 2, 0, .inl 0), (11, .ifCond .ne 6, 3, 17, 0, 0, .inl 0), (14, .bipush (-2), 2, 0, 0, 0, .inl (-2)), (16, .ireturn, 1, 0, 0, 0, .inl 0)])
  | 17 => (21, [(17, .iconst 0, 1, 0, 0, 0, .inl (nI 0)), (18, .istore_n 2, 1, 2, 0, 0, .inl 0), (19, .iconst 0, 1, 0, 0, 0, .inl (nI 0)), (20, .istore_n 3, 1, 3, 0, 0, .inl 0)])
  | 21 => (49, [(21, .iload_n 3, 1, 3, 0, 0, .inl 0), (22, .aload_n 0, 1, 0, 0, 0, .inl 0), (23, .getfield 13, 3, 0, 1, 2, .inl 0), (26, .iconst 1, 1, 0, 0, 0, .inl (nI 1)), (27, .iaload, 1, 0, 0, 0, .inl 0), (28, .if_icmp .ge 30, 3, 58, 0, 0, .inl 0), (31, .iload_n 2, 1, 2, 0, 0, .inl 0), (32, .aload_n 0, 1, 0, 0, 0, .inl 0), (33, .iload_n 1, 1, 1, 0, 0, .inl 0), (34, .i2l, 1, 0, 0, 0, .inl 0), (35, .iload_n 3, 1, 3, 0, 0, .inl 0), (36, .i2l, 1, 0, 0, 0, .inl 0), (37, .invokevirtual 280, 3, 57, 3, 0, .inl 0), (40, .ifCond .ne 9, 3, 49, 0, 0, .inl 0), (43, .iconst 1, 1, 0, 0, 0, .inl (nI 1)), (44, .iload_n 3, 1, 3, 0, 0, .inl 0), (45, .ishl, 1, 0, 0, 0, .inl 0), (46, .goto 4, 3, 50, 0, 0, .inl 0)])
  | 49 => (50, [(49, .iconst 0, 1, 0, 0, 0, .inl (nI 0))])
  | 50 => (52, [(50, .ior, 1, 0, 0, 0, .inl 0), (51, .istore_n 2, 1, 2, 0, 0, .inl 0)])
  | 52 => (58, [(52, .iinc 3 1, 3, 3, 0, 0, .inl (nI 1)), (55, .goto (-34), 3, 21, 0, 0, .inl 0)])
  | 58 => (60, [(58, .iload_n 2, 1, 2, 0, 0, .inl 0), (59, .ireturn, 1, 0, 0, 0, .inl 0)])
  | n => (n, [])
theorem ck_63 : ∀ pc, px_cks pn_i63 (bk_63 pc).1 pc (bk_63 pc).2 = true := by
  intro pc
  unfold bk_63
  split <;> first | decide +kernel | simp [px_cks]
/-- NoThreeModel.enters(I)V -/
def bk_64 : Nat → Nat × List px_E := fun pc => match pc with
  | 0 => (28, [(0, .aload_n 0, 1, 0, 0, 0, .inl 0), (1, .getfield 13, 3, 0, 1, 2, .inl 0), (4, .iconst 1, 1, 0, 0, 0, .inl (nI 1)), (5, .iaload, 1, 0, 0, 0, .inl 0), (6, .istore_n 2, 1, 2, 0, 0, .inl 0), (7, .aload_n 0, 1, 0, 0, 0, .inl 0), (8, .getfield 13, 3, 0, 1, 2, .inl 0), (11, .iconst 1, 1, 0, 0, 0, .inl (nI 1)), (12, .dup2, 1, 0, 0, 0, .inl 0), (13, .iaload, 1, 0, 0, 0, .inl 0), (14, .iconst 1, 1, 0, 0, 0, .inl (nI 1)), (15, .iadd, 1, 0, 0, 0, .inl 0), (16, .iastore, 1, 0, 0, 0, .inl 0), (17, .aload_n 0, 1, 0, 0, 0, .inl 0), (18, .getfield 13, 3, 0, 1, 2, .inl 0), (21, .iconst 2, 1, 0, 0, 0, .inl (nI 2)), (22, .iload_n 2, 1, 2, 0, 0, .inl 0), (23, .iadd, 1, 0, 0, 0, .inl 0), (24, .iconst 0, 1, 0, 0, 0, .inl (nI 0)), (25, .iastore, 1, 0, 0, 0, .inl 0), (26, .iconst 0, 1, 0, 0, 0, .inl (nI 0)), (27, .istore_n 3, 1, 3, 0, 0, .inl 0)])
  | 28 => (51, [(28, .iload_n 3, 1, 3, 0, 0, .inl 0), (29, .iload_n 2, 1, 2, 0, 0, .inl 0), (30, .if_icmp .ge 27, 3, 57, 0, 0, .inl 0), (33, .iload_n 1, 1, 1, 0, 0, .inl 0), (34, .i2l, 1, 0, 0, 0, .inl 0), (35, .iload_n 3, 1, 3, 0, 0, .inl 0), (36, .invokestatic 151, 3, 14, 2, 0, .inl 0), (39, .ifCond .eq 12, 3, 51, 0, 0, .inl 0), (42, .aload_n 0, 1, 0, 0, 0, .inl 0), (43, .getfield 13, 3, 0, 1, 2, .inl 0), (46, .iload_n 2, 1, 2, 0, 0, .inl 0), (47, .iload_n 3, 1, 3, 0, 0, .inl 0), (48, .invokestatic 155, 3, 15, 3, 0, .inl 0)])
  | 51 => (57, [(51, .iinc 3 1, 3, 3, 0, 0, .inl (nI 1)), (54, .goto (-26), 3, 28, 0, 0, .inl 0)])
  | 57 => (58, [(57, .return_, 1, 0, 0, 0, .inl 0)])
  | n => (n, [])
theorem ck_64 : ∀ pc, px_cks pn_i64 (bk_64 pc).1 pc (bk_64 pc).2 = true := by
  intro pc
  unfold bk_64
  split <;> first | decide +kernel | simp [px_cks]
/-- NoThreeModel.refusesEnter(J)I -/
def bk_65 : Nat → Nat × List px_E := fun pc => match pc with
  | 0 => (20, [(0, .lload_n 1, 1, 1, 0, 0, .inl 0), (1, .lconst 0, 1, 0, 0, 0, .inr (.inl (lN 0))), (2, .lconst 1, 1, 0, 0, 0, .inr (.inl (lN 1))), (3, .aload_n 0, 1, 0, 0, 0, .inl 0), (4, .getfield 13, 3, 0, 1, 2, .inl 0), (7, .iconst 1, 1, 0, 0, 0, .inl (nI 1)), (8, .iaload, 1, 0, 0, 0, .inl 0), (9, .lshl, 1, 0, 0, 0, .inl 0), (10, .lconst 1, 1, 0, 0, 0, .inr (.inl (lN 1))), (11, .lsub, 1, 0, 0, 0, .inl 0), (12, .invokestatic 141, 3, 2, 3, 0, .inl 0), (15, .ifCond .ne 5, 3, 20, 0, 0, .inl 0), (18, .iconst 1, 1, 0, 0, 0, .inl (nI 1)), (19, .ireturn, 1, 0, 0, 0, .inl 0)])
  | 20 => (34, [(20, .aload_n 0, 1, 0, 0, 0, .inl 0), (21, .getfield 13, 3, 0, 1, 2, .inl 0), (24, .iconst 1, 1, 0, 0, 0, .inl (nI 1)), (25, .iaload, 1, 0, 0, 0, .inl 0), (26, .bipush 11, 2, 0, 0, 0, .inl (nI 11)), (28, .if_icmp .ne 6, 3, 34, 0, 0, .inl 0), (31, .bipush 6, 2, 0, 0, 0, .inl (nI 6)), (33, .ireturn, 1, 0, 0, 0, .inl 0)])
  | 34 => (43, [(34, .aload_n 0, 1, 0, 0, 0, .inl 0), (35, .lload_n 1, 1, 1, 0, 0, .inl 0), (36, .l2i, 1, 0, 0, 0, .inl 0), (37, .invokevirtual 230, 3, 40, 2, 0, .inl 0), (40, .ifCond .ne 5, 3, 45, 0, 0, .inl 0)])
  | 43 => (45, [(43, .iconst 3, 1, 0, 0, 0, .inl (nI 3)), (44, .ireturn, 1, 0, 0, 0, .inl 0)])
  | 45 => (70, [(45, .aload_n 0, 1, 0, 0, 0, .inl 0), (46, .invokevirtual 267, 3, 55, 1, 0, .inl 0), (49, .aload_n 0, 1, 0, 0, 0, .inl 0), (50, .aload_n 0, 1, 0, 0, 0, .inl 0), (51, .getfield 45, 3, 0, 20, 2, .inl 0), (54, .invokevirtual 270, 3, 52, 2, 0, .inl 0), (57, .aload_n 0, 1, 0, 0, 0, .inl 0), (58, .getfield 13, 3, 0, 1, 2, .inl 0), (61, .iconst 1, 1, 0, 0, 0, .inl (nI 1)), (62, .iaload, 1, 0, 0, 0, .inl 0), (63, .istore_n 3, 1, 3, 0, 0, .inl 0), (64, .aload_n 0, 1, 0, 0, 0, .inl 0), (65, .lload_n 1, 1, 1, 0, 0, .inl 0), (66, .l2i, 1, 0, 0, 0, .inl 0), (67, .invokevirtual 291, 3, 64, 2, 0, .inl 0)])
  | 70 => (94, [(70, .aload_n 0, 1, 0, 0, 0, .inl 0), (71, .iload_n 3, 1, 3, 0, 0, .inl 0), (72, .invokevirtual 274, 3, 56, 2, 0, .inl 0), (75, .istore 4, 2, 4, 0, 0, .inl 0), (77, .aload_n 0, 1, 0, 0, 0, .inl 0), (78, .aload_n 0, 1, 0, 0, 0, .inl 0), (79, .getfield 45, 3, 0, 20, 2, .inl 0), (82, .invokevirtual 277, 3, 53, 2, 0, .inl 0), (85, .iload 4, 2, 4, 0, 0, .inl 0), (87, .ifCond .eq 7, 3, 94, 0, 0, .inl 0), (90, .iconst 0, 1, 0, 0, 0, .inl (nI 0)), (91, .goto 4, 3, 95, 0, 0, .inl 0)])
  | 94 => (95, [(94, .iconst 4, 1, 0, 0, 0, .inl (nI 4))])
  | 95 => (96, [(95, .ireturn, 1, 0, 0, 0, .inl 0)])
  | n => (n, [])
theorem ck_65 : ∀ pc, px_cks pn_i65 (bk_65 pc).1 pc (bk_65 pc).2 = true := by
  intro pc
  unfold bk_65
  split <;> first | decide +kernel | simp [px_cks]
/-- NoThreeModel.enter(I)I -/
def bk_66 : Nat → Nat × List px_E := fun pc => match pc with
  | 0 => (21, [(0, .aload_n 0, 1, 0, 0, 0, .inl 0), (1, .iconst 0, 1, 0, 0, 0, .inl (nI 0)), (2, .putfield 1, 3, 0, 0, 0, .inl 0), (5, .aload_n 0, 1, 0, 0, 0, .inl 0), (6, .iload_n 1, 1, 1, 0, 0, .inl 0), (7, .i2l, 1, 0, 0, 0, .inl 0), (8, .invokevirtual 294, 3, 65, 2, 0, .inl 0), (11, .istore_n 2, 1, 2, 0, 0, .inl 0), (12, .iload_n 2, 1, 2, 0, 0, .inl 0), (13, .ifCond .eq 8, 3, 21, 0, 0, .inl 0), (16, .bipush (-10), 2, 0, 0, 0, .inl (-10)), (18, .iload_n 2, 1, 2, 0, 0, .inl 0), (19, .isub, 1, 0, 0, 0, .inl 0), (20, .ireturn, 1, 0, 0, 0, .inl 0)])
  | 21 => (30, [(21, .aload_n 0, 1, 0, 0, 0, .inl 0), (22, .invokevirtual 284, 3, 58, 1, 0, .inl 0), (25, .aload_n 0, 1, 0, 0, 0, .inl 0), (26, .iload_n 1, 1, 1, 0, 0, .inl 0), (27, .invokevirtual 291, 3, 64, 2, 0, .inl 0)])
  | 30 => (39, [(30, .aload_n 0, 1, 0, 0, 0, .inl 0), (31, .getfield 13, 3, 0, 1, 2, .inl 0), (34, .iconst 1, 1, 0, 0, 0, .inl (nI 1)), (35, .iaload, 1, 0, 0, 0, .inl 0), (36, .iconst 1, 1, 0, 0, 0, .inl (nI 1)), (37, .isub, 1, 0, 0, 0, .inl 0), (38, .ireturn, 1, 0, 0, 0, .inl 0)])
  | n => (n, [])
theorem ck_66 : ∀ pc, px_cks pn_i66 (bk_66 pc).1 pc (bk_66 pc).2 = true := by
  intro pc
  unfold bk_66
  split <;> first | decide +kernel | simp [px_cks]
/-- NoThreeModel.without(II)I -/
def bk_67 : Nat → Nat × List px_E := fun pc => match pc with
  | 0 => (16, [(0, .iload_n 0, 1, 0, 0, 0, .inl 0), (1, .iconst 1, 1, 0, 0, 0, .inl (nI 1)), (2, .iload_n 1, 1, 1, 0, 0, .inl 0), (3, .ishl, 1, 0, 0, 0, .inl 0), (4, .iconst 1, 1, 0, 0, 0, .inl (nI 1)), (5, .isub, 1, 0, 0, 0, .inl 0), (6, .iand, 1, 0, 0, 0, .inl 0), (7, .iload_n 0, 1, 0, 0, 0, .inl 0), (8, .iload_n 1, 1, 1, 0, 0, .inl 0), (9, .iconst 1, 1, 0, 0, 0, .inl (nI 1)), (10, .iadd, 1, 0, 0, 0, .inl 0), (11, .ishr, 1, 0, 0, 0, .inl 0), (12, .iload_n 1, 1, 1, 0, 0, .inl 0), (13, .ishl, 1, 0, 0, 0, .inl 0), (14, .ior, 1, 0, 0, 0, .inl 0), (15, .ireturn, 1, 0, 0, 0, .inl 0)])
  | n => (n, [])
theorem ck_67 : ∀ pc, px_cks pn_i67 (bk_67 pc).1 pc (bk_67 pc).2 = true := by
  intro pc
  unfold bk_67
  split <;> first | decide +kernel | simp [px_cks]
/-- NoThreeModel.leaves(I)V -/
def bk_68 : Nat → Nat × List px_E := fun pc => match pc with
  | 0 => (2, [(0, .iload_n 1, 1, 1, 0, 0, .inl 0), (1, .istore_n 2, 1, 2, 0, 0, .inl 0)])
  | 2 => (38, [(2, .iload_n 2, 1, 2, 0, 0, .inl 0), (3, .aload_n 0, 1, 0, 0, 0, .inl 0), (4, .getfield 13, 3, 0, 1, 2, .inl 0), (7, .iconst 1, 1, 0, 0, 0, .inl (nI 1)), (8, .iaload, 1, 0, 0, 0, .inl 0), (9, .iconst 1, 1, 0, 0, 0, .inl (nI 1)), (10, .isub, 1, 0, 0, 0, .inl 0), (11, .if_icmp .ge 27, 3, 38, 0, 0, .inl 0), (14, .aload_n 0, 1, 0, 0, 0, .inl 0), (15, .getfield 13, 3, 0, 1, 2, .inl 0), (18, .iconst 2, 1, 0, 0, 0, .inl (nI 2)), (19, .iload_n 2, 1, 2, 0, 0, .inl 0), (20, .iadd, 1, 0, 0, 0, .inl 0), (21, .aload_n 0, 1, 0, 0, 0, .inl 0), (22, .getfield 13, 3, 0, 1, 2, .inl 0), (25, .iconst 2, 1, 0, 0, 0, .inl (nI 2)), (26, .iload_n 2, 1, 2, 0, 0, .inl 0), (27, .iadd, 1, 0, 0, 0, .inl 0), (28, .iconst 1, 1, 0, 0, 0, .inl (nI 1)), (29, .iadd, 1, 0, 0, 0, .inl 0), (30, .iaload, 1, 0, 0, 0, .inl 0), (31, .iastore, 1, 0, 0, 0, .inl 0), (32, .iinc 2 1, 3, 2, 0, 0, .inl (nI 1)), (35, .goto (-33), 3, 2, 0, 0, .inl 0)])
  | 38 => (64, [(38, .aload_n 0, 1, 0, 0, 0, .inl 0), (39, .getfield 13, 3, 0, 1, 2, .inl 0), (42, .iconst 1, 1, 0, 0, 0, .inl (nI 1)), (43, .dup2, 1, 0, 0, 0, .inl 0), (44, .iaload, 1, 0, 0, 0, .inl 0), (45, .iconst 1, 1, 0, 0, 0, .inl (nI 1)), (46, .isub, 1, 0, 0, 0, .inl 0), (47, .iastore, 1, 0, 0, 0, .inl 0), (48, .aload_n 0, 1, 0, 0, 0, .inl 0), (49, .getfield 13, 3, 0, 1, 2, .inl 0), (52, .iconst 2, 1, 0, 0, 0, .inl (nI 2)), (53, .aload_n 0, 1, 0, 0, 0, .inl 0), (54, .getfield 13, 3, 0, 1, 2, .inl 0), (57, .iconst 1, 1, 0, 0, 0, .inl (nI 1)), (58, .iaload, 1, 0, 0, 0, .inl 0), (59, .iadd, 1, 0, 0, 0, .inl 0), (60, .iconst 0, 1, 0, 0, 0, .inl (nI 0)), (61, .iastore, 1, 0, 0, 0, .inl 0), (62, .iconst 0, 1, 0, 0, 0, .inl (nI 0)), (63, .istore_n 2, 1, 2, 0, 0, .inl 0)])
  | 64 => (97, [(64, .iload_n 2, 1, 2, 0, 0, .inl 0), (65, .aload_n 0, 1, 0, 0, 0, .inl 0), (66, .getfield 13, 3, 0, 1, 2, .inl 0), (69, .iconst 1, 1, 0, 0, 0, .inl (nI 1)), (70, .iaload, 1, 0, 0, 0, .inl 0), (71, .if_icmp .ge 26, 3, 97, 0, 0, .inl 0), (74, .aload_n 0, 1, 0, 0, 0, .inl 0), (75, .getfield 13, 3, 0, 1, 2, .inl 0), (78, .iconst 2, 1, 0, 0, 0, .inl (nI 2)), (79, .iload_n 2, 1, 2, 0, 0, .inl 0), (80, .iadd, 1, 0, 0, 0, .inl 0), (81, .aload_n 0, 1, 0, 0, 0, .inl 0), (82, .iload_n 2, 1, 2, 0, 0, .inl 0), (83, .invokevirtual 205, 3, 31, 2, 0, .inl 0), (86, .iload_n 1, 1, 1, 0, 0, .inl 0), (87, .invokestatic 298, 3, 67, 2, 0, .inl 0), (90, .iastore, 1, 0, 0, 0, .inl 0), (91, .iinc 2 1, 3, 2, 0, 0, .inl (nI 1)), (94, .goto (-30), 3, 64, 0, 0, .inl 0)])
  | 97 => (98, [(97, .return_, 1, 0, 0, 0, .inl 0)])
  | n => (n, [])
theorem ck_68 : ∀ pc, px_cks pn_i68 (bk_68 pc).1 pc (bk_68 pc).2 = true := by
  intro pc
  unfold bk_68
  split <;> first | decide +kernel | simp [px_cks]
/-- NoThreeModel.leave(I)I -/
def bk_69 : Nat → Nat × List px_E := fun pc => match pc with
  | 0 => (17, [(0, .aload_n 0, 1, 0, 0, 0, .inl 0), (1, .iconst 0, 1, 0, 0, 0, .inl (nI 0)), (2, .putfield 1, 3, 0, 0, 0, .inl 0), (5, .aload_n 0, 1, 0, 0, 0, .inl 0), (6, .iload_n 1, 1, 1, 0, 0, .inl 0), (7, .i2l, 1, 0, 0, 0, .inl 0), (8, .invokevirtual 214, 3, 30, 2, 0, .inl 0), (11, .ifCond .ne 6, 3, 17, 0, 0, .inl 0), (14, .bipush (-11), 2, 0, 0, 0, .inl (-11)), (16, .ireturn, 1, 0, 0, 0, .inl 0)])
  | 17 => (26, [(17, .aload_n 0, 1, 0, 0, 0, .inl 0), (18, .invokevirtual 284, 3, 58, 1, 0, .inl 0), (21, .aload_n 0, 1, 0, 0, 0, .inl 0), (22, .iload_n 1, 1, 1, 0, 0, .inl 0), (23, .invokevirtual 301, 3, 68, 2, 0, .inl 0)])
  | 26 => (33, [(26, .aload_n 0, 1, 0, 0, 0, .inl 0), (27, .getfield 13, 3, 0, 1, 2, .inl 0), (30, .iconst 1, 1, 0, 0, 0, .inl (nI 1)), (31, .iaload, 1, 0, 0, 0, .inl 0), (32, .ireturn, 1, 0, 0, 0, .inl 0)])
  | n => (n, [])
theorem ck_69 : ∀ pc, px_cks pn_i69 (bk_69 pc).1 pc (bk_69 pc).2 = true := by
  intro pc
  unfold bk_69
  split <;> first | decide +kernel | simp [px_cks]
/-- NoThreeModel.weave()I -/
def bk_70 : Nat → Nat × List px_E := fun pc => match pc with
  | 0 => (20, [(0, .aload_n 0, 1, 0, 0, 0, .inl 0), (1, .iconst 0, 1, 0, 0, 0, .inl (nI 0)), (2, .putfield 1, 3, 0, 0, 0, .inl 0), (5, .aload_n 0, 1, 0, 0, 0, .inl 0), (6, .getfield 13, 3, 0, 1, 2, .inl 0), (9, .iconst 1, 1, 0, 0, 0, .inl (nI 1)), (10, .iaload, 1, 0, 0, 0, .inl 0), (11, .istore_n 1, 1, 1, 0, 0, .inl 0), (12, .iload_n 1, 1, 1, 0, 0, .inl 0), (13, .iconst 5, 1, 0, 0, 0, .inl (nI 5)), (14, .if_icmp .le 6, 3, 20, 0, 0, .inl 0), (17, .bipush (-4), 2, 0, 0, 0, .inl (-4)), (19, .ireturn, 1, 0, 0, 0, .inl 0)])
  | 20 => (32, [(20, .aload_n 0, 1, 0, 0, 0, .inl 0), (21, .invokevirtual 284, 3, 58, 1, 0, .inl 0), (24, .aload_n 0, 1, 0, 0, 0, .inl 0), (25, .aload_n 0, 1, 0, 0, 0, .inl 0), (26, .getfield 45, 3, 0, 20, 2, .inl 0), (29, .invokevirtual 270, 3, 52, 2, 0, .inl 0)])
  | 32 => (45, [(32, .aload_n 0, 1, 0, 0, 0, .inl 0), (33, .getfield 13, 3, 0, 1, 2, .inl 0), (36, .iconst 1, 1, 0, 0, 0, .inl (nI 1)), (37, .iconst 2, 1, 0, 0, 0, .inl (nI 2)), (38, .iload_n 1, 1, 1, 0, 0, .inl 0), (39, .imul, 1, 0, 0, 0, .inl 0), (40, .iconst 1, 1, 0, 0, 0, .inl (nI 1)), (41, .iadd, 1, 0, 0, 0, .inl 0), (42, .iastore, 1, 0, 0, 0, .inl 0), (43, .iload_n 1, 1, 1, 0, 0, .inl 0), (44, .istore_n 2, 1, 2, 0, 0, .inl 0)])
  | 45 => (70, [(45, .iload_n 2, 1, 2, 0, 0, .inl 0), (46, .aload_n 0, 1, 0, 0, 0, .inl 0), (47, .getfield 13, 3, 0, 1, 2, .inl 0), (50, .iconst 1, 1, 0, 0, 0, .inl (nI 1)), (51, .iaload, 1, 0, 0, 0, .inl 0), (52, .if_icmp .ge 18, 3, 70, 0, 0, .inl 0), (55, .aload_n 0, 1, 0, 0, 0, .inl 0), (56, .getfield 13, 3, 0, 1, 2, .inl 0), (59, .iconst 2, 1, 0, 0, 0, .inl (nI 2)), (60, .iload_n 2, 1, 2, 0, 0, .inl 0), (61, .iadd, 1, 0, 0, 0, .inl 0), (62, .iconst 0, 1, 0, 0, 0, .inl (nI 0)), (63, .iastore, 1, 0, 0, 0, .inl 0), (64, .iinc 2 1, 3, 2, 0, 0, .inl (nI 1)), (67, .goto (-22), 3, 45, 0, 0, .inl 0)])
  | 70 => (72, [(70, .iconst 0, 1, 0, 0, 0, .inl (nI 0)), (71, .istore_n 2, 1, 2, 0, 0, .inl 0)])
  | 72 => (79, [(72, .iload_n 2, 1, 2, 0, 0, .inl 0), (73, .iload_n 1, 1, 1, 0, 0, .inl 0), (74, .if_icmp .ge 62, 3, 136, 0, 0, .inl 0), (77, .iconst 0, 1, 0, 0, 0, .inl (nI 0)), (78, .istore_n 3, 1, 3, 0, 0, .inl 0)])
  | 79 => (111, [(79, .iload_n 3, 1, 3, 0, 0, .inl 0), (80, .iload_n 1, 1, 1, 0, 0, .inl 0), (81, .if_icmp .ge 36, 3, 117, 0, 0, .inl 0), (84, .aload_n 0, 1, 0, 0, 0, .inl 0), (85, .getfield 45, 3, 0, 20, 2, .inl 0), (88, .iconst 1, 1, 0, 0, 0, .inl (nI 1)), (89, .iload_n 2, 1, 2, 0, 0, .inl 0), (90, .iadd, 1, 0, 0, 0, .inl 0), (91, .iaload, 1, 0, 0, 0, .inl 0), (92, .i2l, 1, 0, 0, 0, .inl 0), (93, .iload_n 3, 1, 3, 0, 0, .inl 0), (94, .invokestatic 151, 3, 14, 2, 0, .inl 0), (97, .ifCond .eq 14, 3, 111, 0, 0, .inl 0), (100, .aload_n 0, 1, 0, 0, 0, .inl 0), (101, .getfield 13, 3, 0, 1, 2, .inl 0), (104, .iload_n 1, 1, 1, 0, 0, .inl 0), (105, .iload_n 2, 1, 2, 0, 0, .inl 0), (106, .iadd, 1, 0, 0, 0, .inl 0), (107, .iload_n 3, 1, 3, 0, 0, .inl 0), (108, .invokestatic 155, 3, 15, 3, 0, .inl 0)])
  | 111 => (117, [(111, .iinc 3 1, 3, 3, 0, 0, .inl (nI 1)), (114, .goto (-35), 3, 79, 0, 0, .inl 0)])
  | 117 => (136, [(117, .aload_n 0, 1, 0, 0, 0, .inl 0), (118, .getfield 13, 3, 0, 1, 2, .inl 0), (121, .iload_n 1, 1, 1, 0, 0, .inl 0), (122, .iload_n 2, 1, 2, 0, 0, .inl 0), (123, .iadd, 1, 0, 0, 0, .inl 0), (124, .iconst 2, 1, 0, 0, 0, .inl (nI 2)), (125, .iload_n 1, 1, 1, 0, 0, .inl 0), (126, .imul, 1, 0, 0, 0, .inl 0), (127, .invokestatic 155, 3, 15, 3, 0, .inl 0), (130, .iinc 2 1, 3, 2, 0, 0, .inl (nI 1)), (133, .goto (-61), 3, 72, 0, 0, .inl 0)])
  | 136 => (143, [(136, .aload_n 0, 1, 0, 0, 0, .inl 0), (137, .getfield 13, 3, 0, 1, 2, .inl 0), (140, .iconst 1, 1, 0, 0, 0, .inl (nI 1)), (141, .iaload, 1, 0, 0, 0, .inl 0), (142, .ireturn, 1, 0, 0, 0, .inl 0)])
  | n => (n, [])
theorem ck_70 : ∀ pc, px_cks pn_i70 (bk_70 pc).1 pc (bk_70 pc).2 = true := by
  intro pc
  unfold bk_70
  split <;> first | decide +kernel | simp [px_cks]
