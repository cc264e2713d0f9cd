/-- NoThree.fault(I)I -/
def bk_12004 : Nat → Nat × List px_E := fun pc => match pc with
  | 0 => (12, [(0, .iload_n 1, 1, 1, 0, 0, .inl 0), (1, .ifCond .ne 11, 3, 12, 0, 0, .inl 0), (4, .aload_n 0, 1, 0, 0, 0, .inl 0), (5, .getfield 29, 3, 12, 4, 2, .inl 0), (8, .getfield 115, 3, 9, 1, 0, .inl 0), (11, .ireturn, 1, 0, 0, 0, .inl 0)])
  | 12 => (27, [(12, .iload_n 1, 1, 1, 0, 0, .inl 0), (13, .iconst 1, 1, 0, 0, 0, .inl (nI 1)), (14, .if_icmp .ne 13, 3, 27, 0, 0, .inl 0), (17, .aload_n 0, 1, 0, 0, 0, .inl 0), (18, .getfield 29, 3, 12, 4, 2, .inl 0), (21, .getfield 128, 3, 9, 2, 0, .inl 0), (24, .goto 4, 3, 28, 0, 0, .inl 0)])
  | 27 => (28, [(27, .iconst (-1), 1, 0, 0, 0, .inl (-1))])
  | 28 => (29, [(28, .ireturn, 1, 0, 0, 0, .inl 0)])
  | n => (n, [])
theorem ck_12004 : ∀ pc, px_cks pn_i12004 (bk_12004 pc).1 pc (bk_12004 pc).2 = true := by
  intro pc
  unfold bk_12004
  split <;> first | decide +kernel | simp [px_cks]
/-- NoThree.house(II)I -/
def bk_12005 : Nat → Nat × List px_E := fun pc => match pc with
  | 0 => (14, [(0, .aload_n 0, 1, 0, 0, 0, .inl 0), (1, .getfield 12, 3, 12, 0, 2, .inl 0), (4, .getfield 131, 3, 1, 0, 2, .inl 0), (7, .iload_n 1, 1, 1, 0, 0, .inl 0), (8, .invokevirtual 134, 3, 11002, 2, 11, .inl 0), (11, .ifCond .ne 6, 3, 17, 0, 0, .inl 0)])
  | 14 => (17, [(14, .bipush (-2), 2, 0, 0, 0, .inl (-2)), (16, .ireturn, 1, 0, 0, 0, .inl 0)])
  | 17 => (60, [(17, .iload_n 2, 1, 2, 0, 0, .inl 0), (18, .tableswitch 128 0 6 #[42, 54, 66, 78, 90, 102, 116], 42, 8, 0, 0, .inl 0)])
  | 60 => (72, [(60, .aload_n 0, 1, 0, 0, 0, .inl 0), (61, .getfield 12, 3, 12, 0, 2, .inl 0), (64, .getfield 131, 3, 1, 0, 2, .inl 0), (67, .iload_n 1, 1, 1, 0, 0, .inl 0), (68, .invokevirtual 137, 3, 11014, 2, 11, .inl 0), (71, .ireturn, 1, 0, 0, 0, .inl 0)])
  | 72 => (84, [(72, .aload_n 0, 1, 0, 0, 0, .inl 0), (73, .getfield 12, 3, 12, 0, 2, .inl 0), (76, .getfield 131, 3, 1, 0, 2, .inl 0), (79, .iload_n 1, 1, 1, 0, 0, .inl 0), (80, .invokevirtual 141, 3, 11005, 2, 11, .inl 0), (83, .ireturn, 1, 0, 0, 0, .inl 0)])
  | 84 => (96, [(84, .aload_n 0, 1, 0, 0, 0, .inl 0), (85, .getfield 12, 3, 12, 0, 2, .inl 0), (88, .getfield 131, 3, 1, 0, 2, .inl 0), (91, .iload_n 1, 1, 1, 0, 0, .inl 0), (92, .invokevirtual 144, 3, 11022, 2, 11, .inl 0), (95, .ireturn, 1, 0, 0, 0, .inl 0)])
  | 96 => (108, [(96, .aload_n 0, 1, 0, 0, 0, .inl 0), (97, .getfield 12, 3, 12, 0, 2, .inl 0), (100, .getfield 131, 3, 1, 0, 2, .inl 0), (103, .iload_n 1, 1, 1, 0, 0, .inl 0), (104, .invokevirtual 147, 3, 11027, 2, 11, .inl 0), (107, .ireturn, 1, 0, 0, 0, .inl 0)])
  | 108 => (120, [(108, .aload_n 0, 1, 0, 0, 0, .inl 0), (109, .getfield 12, 3, 12, 0, 2, .inl 0), (112, .getfield 131, 3, 1, 0, 2, .inl 0), (115, .iload_n 1, 1, 1, 0, 0, .inl 0), (116, .invokevirtual 150, 3, 11019, 2, 11, .inl 0), (119, .ireturn, 1, 0, 0, 0, .inl 0)])
  | 120 => (134, [(120, .aload_n 0, 1, 0, 0, 0, .inl 0), (121, .getfield 12, 3, 12, 0, 2, .inl 0), (124, .getfield 131, 3, 1, 0, 2, .inl 0), (127, .iload_n 1, 1, 1, 0, 0, .inl 0), (128, .bipush 11, 2, 0, 0, 0, .inl (nI 11)), (130, .invokevirtual 153, 3, 11017, 3, 11, .inl 0), (133, .ireturn, 1, 0, 0, 0, .inl 0)])
  | 134 => (146, [(134, .aload_n 0, 1, 0, 0, 0, .inl 0), (135, .getfield 12, 3, 12, 0, 2, .inl 0), (138, .getfield 131, 3, 1, 0, 2, .inl 0), (141, .iload_n 1, 1, 1, 0, 0, .inl 0), (142, .invokevirtual 157, 3, 11018, 2, 11, .inl 0), (145, .ireturn, 1, 0, 0, 0, .inl 0)])
  | 146 => (149, [(146, .bipush (-2), 2, 0, 0, 0, .inl (-2)), (148, .ireturn, 1, 0, 0, 0, .inl 0)])
  | n => (n, [])
theorem ck_12005 : ∀ pc, px_cks pn_i12005 (bk_12005 pc).1 pc (bk_12005 pc).2 = true := by
  intro pc
  unfold bk_12005
  split <;> first | decide +kernel | simp [px_cks]
/-- NoThree.steps(II)I -/
def bk_12006 : Nat → Nat × List px_E := fun pc => match pc with
  | 0 => (28, [(0, .aload_n 0, 1, 0, 0, 0, .inl 0), (1, .getfield 12, 3, 12, 0, 2, .inl 0), (4, .getfield 131, 3, 1, 0, 2, .inl 0), (7, .iload_n 1, 1, 1, 0, 0, .inl 0), (8, .invokevirtual 134, 3, 11002, 2, 11, .inl 0), (11, .ifCond .eq 17, 3, 28, 0, 0, .inl 0), (14, .aload_n 0, 1, 0, 0, 0, .inl 0), (15, .getfield 12, 3, 12, 0, 2, .inl 0), (18, .getfield 131, 3, 1, 0, 2, .inl 0), (21, .iload_n 2, 1, 2, 0, 0, .inl 0), (22, .invokevirtual 134, 3, 11002, 2, 11, .inl 0), (25, .ifCond .ne 6, 3, 31, 0, 0, .inl 0)])
  | 28 => (31, [(28, .bipush (-2), 2, 0, 0, 0, .inl (-2)), (30, .ireturn, 1, 0, 0, 0, .inl 0)])
  | 31 => (44, [(31, .aload_n 0, 1, 0, 0, 0, .inl 0), (32, .getfield 12, 3, 12, 0, 2, .inl 0), (35, .getfield 131, 3, 1, 0, 2, .inl 0), (38, .iload_n 1, 1, 1, 0, 0, .inl 0), (39, .iload_n 2, 1, 2, 0, 0, .inl 0), (40, .invokevirtual 160, 3, 11020, 3, 11, .inl 0), (43, .ireturn, 1, 0, 0, 0, .inl 0)])
  | n => (n, [])
theorem ck_12006 : ∀ pc, px_cks pn_i12006 (bk_12006 pc).1 pc (bk_12006 pc).2 = true := by
  intro pc
  unfold bk_12006
  split <;> first | decide +kernel | simp [px_cks]
/-- NoThree.holds(II)I -/
def bk_12007 : Nat → Nat × List px_E := fun pc => match pc with
  | 0 => (32, [(0, .iload_n 1, 1, 1, 0, 0, .inl 0), (1, .ifCond .lt 31, 3, 32, 0, 0, .inl 0), (4, .iload_n 1, 1, 1, 0, 0, .inl 0), (5, .aload_n 0, 1, 0, 0, 0, .inl 0), (6, .getfield 12, 3, 12, 0, 2, .inl 0), (9, .getfield 163, 3, 1, 1, 2, .inl 0), (12, .getfield 167, 3, 10, 0, 0, .inl 0), (15, .if_icmp .ge 17, 3, 32, 0, 0, .inl 0), (18, .aload_n 0, 1, 0, 0, 0, .inl 0), (19, .getfield 12, 3, 12, 0, 2, .inl 0), (22, .getfield 131, 3, 1, 0, 2, .inl 0), (25, .iload_n 2, 1, 2, 0, 0, .inl 0), (26, .invokevirtual 134, 3, 11002, 2, 11, .inl 0), (29, .ifCond .ne 6, 3, 35, 0, 0, .inl 0)])
  | 32 => (35, [(32, .bipush (-2), 2, 0, 0, 0, .inl (-2)), (34, .ireturn, 1, 0, 0, 0, .inl 0)])
  | 35 => (46, [(35, .aload_n 0, 1, 0, 0, 0, .inl 0), (36, .aload_n 0, 1, 0, 0, 0, .inl 0), (37, .getfield 12, 3, 12, 0, 2, .inl 0), (40, .getfield 131, 3, 1, 0, 2, .inl 0), (43, .invokevirtual 172, 3, 12060, 2, 12, .inl 0)])
  | 46 => (65, [(46, .aload_n 0, 1, 0, 0, 0, .inl 0), (47, .getfield 71, 3, 12, 10, 2, .inl 0), (50, .iload_n 1, 1, 1, 0, 0, .inl 0), (51, .invokevirtual 176, 3, 2003, 2, 2, .inl 0), (54, .iconst 1, 1, 0, 0, 0, .inl (nI 1)), (55, .iload_n 2, 1, 2, 0, 0, .inl 0), (56, .ishl, 1, 0, 0, 0, .inl 0), (57, .iand, 1, 0, 0, 0, .inl 0), (58, .ifCond .eq 7, 3, 65, 0, 0, .inl 0), (61, .iconst 1, 1, 0, 0, 0, .inl (nI 1)), (62, .goto 4, 3, 66, 0, 0, .inl 0)])
  | 65 => (66, [(65, .iconst 0, 1, 0, 0, 0, .inl (nI 0))])
  | 66 => (67, [(66, .ireturn, 1, 0, 0, 0, .inl 0)])
  | n => (n, [])
theorem ck_12007 : ∀ pc, px_cks pn_i12007 (bk_12007 pc).1 pc (bk_12007 pc).2 = true := by
  intro pc
  unfold bk_12007
  split <;> first | decide +kernel | simp [px_cks]
/-- NoThree.broken(I)I -/
def bk_12008 : Nat → Nat × List px_E := fun pc => match pc with
  | 0 => (9, [(0, .iload_n 1, 1, 1, 0, 0, .inl 0), (1, .ifCond .lt 8, 3, 9, 0, 0, .inl 0), (4, .iload_n 1, 1, 1, 0, 0, .inl 0), (5, .iconst 1, 1, 0, 0, 0, .inl (nI 1)), (6, .if_icmp .le 6, 3, 12, 0, 0, .inl 0)])
  | 9 => (12, [(9, .bipush (-2), 2, 0, 0, 0, .inl (-2)), (11, .ireturn, 1, 0, 0, 0, .inl 0)])
  | 12 => (25, [(12, .aload_n 0, 1, 0, 0, 0, .inl 0), (13, .aload_n 0, 1, 0, 0, 0, .inl 0), (14, .getfield 12, 3, 12, 0, 2, .inl 0), (17, .getfield 131, 3, 1, 0, 2, .inl 0), (20, .invokevirtual 172, 3, 12060, 2, 12, .inl 0), (23, .iconst 0, 1, 0, 0, 0, .inl (nI 0)), (24, .istore_n 2, 1, 2, 0, 0, .inl 0)])
  | 25 => (41, [(25, .iload_n 2, 1, 2, 0, 0, .inl 0), (26, .aload_n 0, 1, 0, 0, 0, .inl 0), (27, .getfield 12, 3, 12, 0, 2, .inl 0), (30, .getfield 131, 3, 1, 0, 2, .inl 0), (33, .getfield 179, 3, 11, 0, 0, .inl 0), (36, .if_icmp .ge 56, 3, 92, 0, 0, .inl 0), (39, .iconst 0, 1, 0, 0, 0, .inl (nI 0)), (40, .istore_n 3, 1, 3, 0, 0, .inl 0)])
  | 41 => (78, [(41, .iload_n 3, 1, 3, 0, 0, .inl 0), (42, .aload_n 0, 1, 0, 0, 0, .inl 0), (43, .getfield 12, 3, 12, 0, 2, .inl 0), (46, .getfield 163, 3, 1, 1, 2, .inl 0), (49, .getfield 167, 3, 10, 0, 0, .inl 0), (52, .if_icmp .ge 34, 3, 86, 0, 0, .inl 0), (55, .aload_n 0, 1, 0, 0, 0, .inl 0), (56, .getfield 71, 3, 12, 10, 2, .inl 0), (59, .iload_n 3, 1, 3, 0, 0, .inl 0), (60, .invokevirtual 176, 3, 2003, 2, 2, .inl 0), (63, .iconst 1, 1, 0, 0, 0, .inl (nI 1)), (64, .iload_n 2, 1, 2, 0, 0, .inl 0), (65, .ishl, 1, 0, 0, 0, .inl 0), (66, .iand, 1, 0, 0, 0, .inl 0), (67, .ifCond .ne 13, 3, 80, 0, 0, .inl 0), (70, .iload_n 1, 1, 1, 0, 0, .inl 0), (71, .ifCond .ne 7, 3, 78, 0, 0, .inl 0), (74, .iload_n 2, 1, 2, 0, 0, .inl 0), (75, .goto 4, 3, 79, 0, 0, .inl 0)])
  | 78 => (79, [(78, .iload_n 3, 1, 3, 0, 0, .inl 0)])
  | 79 => (80, [(79, .ireturn, 1, 0, 0, 0, .inl 0)])
  | 80 => (86, [(80, .iinc 3 1, 3, 3, 0, 0, .inl (nI 1)), (83, .goto (-42), 3, 41, 0, 0, .inl 0)])
  | 86 => (92, [(86, .iinc 2 1, 3, 2, 0, 0, .inl (nI 1)), (89, .goto (-64), 3, 25, 0, 0, .inl 0)])
  | 92 => (94, [(92, .iconst (-1), 1, 0, 0, 0, .inl (-1)), (93, .ireturn, 1, 0, 0, 0, .inl 0)])
  | n => (n, [])
theorem ck_12008 : ∀ pc, px_cks pn_i12008 (bk_12008 pc).1 pc (bk_12008 pc).2 = true := by
  intro pc
  unfold bk_12008
  split <;> first | decide +kernel | simp [px_cks]
/-- NoThree.breaches()I -/
def bk_12009 : Nat → Nat × List px_E := fun pc => match pc with
  | 0 => (15, [(0, .aload_n 0, 1, 0, 0, 0, .inl 0), (1, .aload_n 0, 1, 0, 0, 0, .inl 0), (2, .getfield 12, 3, 12, 0, 2, .inl 0), (5, .getfield 131, 3, 1, 0, 2, .inl 0), (8, .invokevirtual 172, 3, 12060, 2, 12, .inl 0), (11, .iconst 0, 1, 0, 0, 0, .inl (nI 0)), (12, .istore_n 1, 1, 1, 0, 0, .inl 0), (13, .iconst 0, 1, 0, 0, 0, .inl (nI 0)), (14, .istore_n 2, 1, 2, 0, 0, .inl 0)])
  | 15 => (54, [(15, .iload_n 2, 1, 2, 0, 0, .inl 0), (16, .aload_n 0, 1, 0, 0, 0, .inl 0), (17, .getfield 12, 3, 12, 0, 2, .inl 0), (20, .getfield 163, 3, 1, 1, 2, .inl 0), (23, .getfield 167, 3, 10, 0, 0, .inl 0), (26, .if_icmp .ge 34, 3, 60, 0, 0, .inl 0), (29, .iload_n 1, 1, 1, 0, 0, .inl 0), (30, .aload_n 0, 1, 0, 0, 0, .inl 0), (31, .getfield 12, 3, 12, 0, 2, .inl 0), (34, .getfield 131, 3, 1, 0, 2, .inl 0), (37, .getfield 179, 3, 11, 0, 0, .inl 0), (40, .aload_n 0, 1, 0, 0, 0, .inl 0), (41, .getfield 71, 3, 12, 10, 2, .inl 0), (44, .iload_n 2, 1, 2, 0, 0, .inl 0), (45, .invokevirtual 176, 3, 2003, 2, 2, .inl 0), (48, .invokestatic 182, 3, 21000, 1, 0, .inl 0), (51, .isub, 1, 0, 0, 0, .inl 0), (52, .iadd, 1, 0, 0, 0, .inl 0), (53, .istore_n 1, 1, 1, 0, 0, .inl 0)])
  | 54 => (60, [(54, .iinc 2 1, 3, 2, 0, 0, .inl (nI 1)), (57, .goto (-42), 3, 15, 0, 0, .inl 0)])
  | 60 => (62, [(60, .iload_n 1, 1, 1, 0, 0, .inl 0), (61, .ireturn, 1, 0, 0, 0, .inl 0)])
  | n => (n, [])
theorem ck_12009 : ∀ pc, px_cks pn_i12009 (bk_12009 pc).1 pc (bk_12009 pc).2 = true := by
  intro pc
  unfold bk_12009
  split <;> first | decide +kernel | simp [px_cks]
/-- NoThree.why(II)I -/
def bk_12010 : Nat → Nat × List px_E := fun pc => match pc with
  | 0 => (21, [(0, .aload_n 0, 1, 0, 0, 0, .inl 0), (1, .aload_n 0, 1, 0, 0, 0, .inl 0), (2, .getfield 12, 3, 12, 0, 2, .inl 0), (5, .getfield 131, 3, 1, 0, 2, .inl 0), (8, .invokevirtual 172, 3, 12060, 2, 12, .inl 0), (11, .aload_n 0, 1, 0, 0, 0, .inl 0), (12, .getfield 71, 3, 12, 10, 2, .inl 0), (15, .iload_n 1, 1, 1, 0, 0, .inl 0), (16, .iload_n 2, 1, 2, 0, 0, .inl 0), (17, .invokevirtual 187, 3, 2005, 3, 2, .inl 0), (20, .ireturn, 1, 0, 0, 0, .inl 0)])
  | n => (n, [])
theorem ck_12010 : ∀ pc, px_cks pn_i12010 (bk_12010 pc).1 pc (bk_12010 pc).2 = true := by
  intro pc
  unfold bk_12010
  split <;> first | decide +kernel | simp [px_cks]
/-- NoThree.join(II)I -/
def bk_12011 : Nat → Nat × List px_E := fun pc => match pc with
  | 0 => (25, [(0, .aload_n 0, 1, 0, 0, 0, .inl 0), (1, .aload_n 0, 1, 0, 0, 0, .inl 0), (2, .getfield 12, 3, 12, 0, 2, .inl 0), (5, .getfield 131, 3, 1, 0, 2, .inl 0), (8, .invokevirtual 172, 3, 12060, 2, 12, .inl 0), (11, .aload_n 0, 1, 0, 0, 0, .inl 0), (12, .getfield 71, 3, 12, 10, 2, .inl 0), (15, .iload_n 1, 1, 1, 0, 0, .inl 0), (16, .iload_n 2, 1, 2, 0, 0, .inl 0), (17, .invokevirtual 187, 3, 2005, 3, 2, .inl 0), (20, .istore_n 3, 1, 3, 0, 0, .inl 0), (21, .iload_n 3, 1, 3, 0, 0, .inl 0), (22, .ifCond .eq 8, 3, 30, 0, 0, .inl 0)])
  | 25 => (30, [(25, .bipush (-10), 2, 0, 0, 0, .inl (-10)), (27, .iload_n 3, 1, 3, 0, 0, .inl 0), (28, .isub, 1, 0, 0, 0, .inl 0), (29, .ireturn, 1, 0, 0, 0, .inl 0)])
  | 30 => (60, [(30, .aload_n 0, 1, 0, 0, 0, .inl 0), (31, .getfield 12, 3, 12, 0, 2, .inl 0), (34, .invokevirtual 190, 3, 1004, 1, 1, .inl 0), (37, .aload_n 0, 1, 0, 0, 0, .inl 0), (38, .getfield 12, 3, 12, 0, 2, .inl 0), (41, .getfield 131, 3, 1, 0, 2, .inl 0), (44, .iload_n 1, 1, 1, 0, 0, .inl 0), (45, .iload_n 2, 1, 2, 0, 0, .inl 0), (46, .invokevirtual 193, 3, 11009, 3, 11, .inl 0), (49, .aload_n 0, 1, 0, 0, 0, .inl 0), (50, .getfield 12, 3, 12, 0, 2, .inl 0), (53, .getfield 131, 3, 1, 0, 2, .inl 0), (56, .invokevirtual 197, 3, 11015, 1, 11, .inl 0), (59, .ireturn, 1, 0, 0, 0, .inl 0)])
  | n => (n, [])
theorem ck_12011 : ∀ pc, px_cks pn_i12011 (bk_12011 pc).1 pc (bk_12011 pc).2 = true := by
  intro pc
  unfold bk_12011
  split <;> first | decide +kernel | simp [px_cks]
/-- NoThree.wall(II)I -/
def bk_12012 : Nat → Nat × List px_E := fun pc => match pc with
  | 0 => (16, [(0, .aload_n 0, 1, 0, 0, 0, .inl 0), (1, .iload_n 1, 1, 1, 0, 0, .inl 0), (2, .iload_n 2, 1, 2, 0, 0, .inl 0), (3, .invokevirtual 201, 3, 12062, 3, 12, .inl 0), (6, .istore_n 3, 1, 3, 0, 0, .inl 0), (7, .iload_n 3, 1, 3, 0, 0, .inl 0), (8, .ifCond .eq 8, 3, 16, 0, 0, .inl 0), (11, .bipush (-10), 2, 0, 0, 0, .inl (-10)), (13, .iload_n 3, 1, 3, 0, 0, .inl 0), (14, .isub, 1, 0, 0, 0, .inl 0), (15, .ireturn, 1, 0, 0, 0, .inl 0)])
  | 16 => (35, [(16, .aload_n 0, 1, 0, 0, 0, .inl 0), (17, .getfield 12, 3, 12, 0, 2, .inl 0), (20, .invokevirtual 190, 3, 1004, 1, 1, .inl 0), (23, .aload_n 0, 1, 0, 0, 0, .inl 0), (24, .getfield 12, 3, 12, 0, 2, .inl 0), (27, .getfield 131, 3, 1, 0, 2, .inl 0), (30, .iload_n 1, 1, 1, 0, 0, .inl 0), (31, .iload_n 2, 1, 2, 0, 0, .inl 0), (32, .invokevirtual 204, 3, 11010, 3, 11, .inl 0)])
  | 35 => (46, [(35, .aload_n 0, 1, 0, 0, 0, .inl 0), (36, .getfield 12, 3, 12, 0, 2, .inl 0), (39, .getfield 131, 3, 1, 0, 2, .inl 0), (42, .invokevirtual 197, 3, 11015, 1, 11, .inl 0), (45, .ireturn, 1, 0, 0, 0, .inl 0)])
  | n => (n, [])
theorem ck_12012 : ∀ pc, px_cks pn_i12012 (bk_12012 pc).1 pc (bk_12012 pc).2 = true := by
  intro pc
  unfold bk_12012
  split <;> first | decide +kernel | simp [px_cks]
/-- NoThree.may(I)I -/
def bk_12013 : Nat → Nat × List px_E := fun pc => match pc with
  | 0 => (17, [(0, .aload_n 0, 1, 0, 0, 0, .inl 0), (1, .getfield 12, 3, 12, 0, 2, .inl 0), (4, .getfield 131, 3, 1, 0, 2, .inl 0), (7, .iload_n 1, 1, 1, 0, 0, .inl 0), (8, .invokevirtual 134, 3, 11002, 2, 11, .inl 0), (11, .ifCond .ne 6, 3, 17, 0, 0, .inl 0), (14, .bipush (-2), 2, 0, 0, 0, .inl (-2)), (16, .ireturn, 1, 0, 0, 0, .inl 0)])
  | 17 => (32, [(17, .aload_n 0, 1, 0, 0, 0, .inl 0), (18, .aload_n 0, 1, 0, 0, 0, .inl 0), (19, .getfield 12, 3, 12, 0, 2, .inl 0), (22, .getfield 131, 3, 1, 0, 2, .inl 0), (25, .invokevirtual 172, 3, 12060, 2, 12, .inl 0), (28, .iconst 0, 1, 0, 0, 0, .inl (nI 0)), (29, .istore_n 2, 1, 2, 0, 0, .inl 0), (30, .iconst 0, 1, 0, 0, 0, .inl (nI 0)), (31, .istore_n 3, 1, 3, 0, 0, .inl 0)])
  | 32 => (64, [(32, .iload_n 3, 1, 3, 0, 0, .inl 0), (33, .aload_n 0, 1, 0, 0, 0, .inl 0), (34, .getfield 12, 3, 12, 0, 2, .inl 0), (37, .getfield 131, 3, 1, 0, 2, .inl 0), (40, .getfield 179, 3, 11, 0, 0, .inl 0), (43, .if_icmp .ge 27, 3, 70, 0, 0, .inl 0), (46, .aload_n 0, 1, 0, 0, 0, .inl 0), (47, .getfield 71, 3, 12, 10, 2, .inl 0), (50, .iload_n 1, 1, 1, 0, 0, .inl 0), (51, .iload_n 3, 1, 3, 0, 0, .inl 0), (52, .invokevirtual 187, 3, 2005, 3, 2, .inl 0), (55, .ifCond .ne 9, 3, 64, 0, 0, .inl 0), (58, .iload_n 2, 1, 2, 0, 0, .inl 0), (59, .iconst 1, 1, 0, 0, 0, .inl (nI 1)), (60, .iload_n 3, 1, 3, 0, 0, .inl 0), (61, .ishl, 1, 0, 0, 0, .inl 0), (62, .ior, 1, 0, 0, 0, .inl 0), (63, .istore_n 2, 1, 2, 0, 0, .inl 0)])
  | 64 => (70, [(64, .iinc 3 1, 3, 3, 0, 0, .inl (nI 1)), (67, .goto (-35), 3, 32, 0, 0, .inl 0)])
  | 70 => (72, [(70, .iload_n 2, 1, 2, 0, 0, .inl 0), (71, .ireturn, 1, 0, 0, 0, .inl 0)])
  | n => (n, [])
theorem ck_12013 : ∀ pc, px_cks pn_i12013 (bk_12013 pc).1 pc (bk_12013 pc).2 = true := by
  intro pc
  unfold bk_12013
  split <;> first | decide +kernel | simp [px_cks]
/-- NoThree.enter(I)I -/
def bk_12014 : Nat → Nat × List px_E := fun pc => match pc with
  | 0 => (24, [(0, .aload_n 0, 1, 0, 0, 0, .inl 0), (1, .aload_n 0, 1, 0, 0, 0, .inl 0), (2, .getfield 12, 3, 12, 0, 2, .inl 0), (5, .getfield 131, 3, 1, 0, 2, .inl 0), (8, .invokevirtual 172, 3, 12060, 2, 12, .inl 0), (11, .aload_n 0, 1, 0, 0, 0, .inl 0), (12, .getfield 71, 3, 12, 10, 2, .inl 0), (15, .iload_n 1, 1, 1, 0, 0, .inl 0), (16, .invokevirtual 207, 3, 2006, 2, 2, .inl 0), (19, .istore_n 2, 1, 2, 0, 0, .inl 0), (20, .iload_n 2, 1, 2, 0, 0, .inl 0), (21, .ifCond .eq 8, 3, 29, 0, 0, .inl 0)])
  | 24 => (29, [(24, .bipush (-10), 2, 0, 0, 0, .inl (-10)), (26, .iload_n 2, 1, 2, 0, 0, .inl 0), (27, .isub, 1, 0, 0, 0, .inl 0), (28, .ireturn, 1, 0, 0, 0, .inl 0)])
  | 29 => (47, [(29, .aload_n 0, 1, 0, 0, 0, .inl 0), (30, .iload_n 1, 1, 1, 0, 0, .inl 0), (31, .invokevirtual 210, 3, 12061, 2, 12, .inl 0), (34, .aload_n 0, 1, 0, 0, 0, .inl 0), (35, .getfield 12, 3, 12, 0, 2, .inl 0), (38, .getfield 131, 3, 1, 0, 2, .inl 0), (41, .getfield 179, 3, 11, 0, 0, .inl 0), (44, .iconst 1, 1, 0, 0, 0, .inl (nI 1)), (45, .isub, 1, 0, 0, 0, .inl 0), (46, .ireturn, 1, 0, 0, 0, .inl 0)])
  | n => (n, [])
theorem ck_12014 : ∀ pc, px_cks pn_i12014 (bk_12014 pc).1 pc (bk_12014 pc).2 = true := by
  intro pc
  unfold bk_12014
  split <;> first | decide +kernel | simp [px_cks]
/-- NoThree.leave(I)I -/
def bk_12015 : Nat → Nat × List px_E := fun pc => match pc with
  | 0 => (17, [(0, .aload_n 0, 1, 0, 0, 0, .inl 0), (1, .getfield 12, 3, 12, 0, 2, .inl 0), (4, .getfield 131, 3, 1, 0, 2, .inl 0), (7, .iload_n 1, 1, 1, 0, 0, .inl 0), (8, .invokevirtual 134, 3, 11002, 2, 11, .inl 0), (11, .ifCond .ne 6, 3, 17, 0, 0, .inl 0), (14, .bipush (-11), 2, 0, 0, 0, .inl (-11)), (16, .ireturn, 1, 0, 0, 0, .inl 0)])
  | 17 => (35, [(17, .aload_n 0, 1, 0, 0, 0, .inl 0), (18, .getfield 12, 3, 12, 0, 2, .inl 0), (21, .invokevirtual 190, 3, 1004, 1, 1, .inl 0), (24, .aload_n 0, 1, 0, 0, 0, .inl 0), (25, .getfield 12, 3, 12, 0, 2, .inl 0), (28, .getfield 131, 3, 1, 0, 2, .inl 0), (31, .iload_n 1, 1, 1, 0, 0, .inl 0), (32, .invokevirtual 213, 3, 11012, 2, 11, .inl 0)])
  | 35 => (46, [(35, .aload_n 0, 1, 0, 0, 0, .inl 0), (36, .getfield 12, 3, 12, 0, 2, .inl 0), (39, .getfield 131, 3, 1, 0, 2, .inl 0), (42, .getfield 179, 3, 11, 0, 0, .inl 0), (45, .ireturn, 1, 0, 0, 0, .inl 0)])
  | n => (n, [])
theorem ck_12015 : ∀ pc, px_cks pn_i12015 (bk_12015 pc).1 pc (bk_12015 pc).2 = true := by
  intro pc
  unfold bk_12015
  split <;> first | decide +kernel | simp [px_cks]
/-- NoThree.weave()I -/
def bk_12016 : Nat → Nat × List px_E := fun pc => match pc with
  | 0 => (17, [(0, .aload_n 0, 1, 0, 0, 0, .inl 0), (1, .getfield 12, 3, 12, 0, 2, .inl 0), (4, .getfield 131, 3, 1, 0, 2, .inl 0), (7, .getfield 179, 3, 11, 0, 0, .inl 0), (10, .iconst 5, 1, 0, 0, 0, .inl (nI 5)), (11, .if_icmp .le 6, 3, 17, 0, 0, .inl 0), (14, .bipush (-4), 2, 0, 0, 0, .inl (-4)), (16, .ireturn, 1, 0, 0, 0, .inl 0)])
  | 17 => (45, [(17, .aload_n 0, 1, 0, 0, 0, .inl 0), (18, .getfield 12, 3, 12, 0, 2, .inl 0), (21, .invokevirtual 190, 3, 1004, 1, 1, .inl 0), (24, .aload_n 0, 1, 0, 0, 0, .inl 0), (25, .getfield 12, 3, 12, 0, 2, .inl 0), (28, .getfield 131, 3, 1, 0, 2, .inl 0), (31, .invokevirtual 216, 3, 11013, 1, 11, .inl 0), (34, .aload_n 0, 1, 0, 0, 0, .inl 0), (35, .getfield 12, 3, 12, 0, 2, .inl 0), (38, .getfield 131, 3, 1, 0, 2, .inl 0), (41, .getfield 179, 3, 11, 0, 0, .inl 0), (44, .ireturn, 1, 0, 0, 0, .inl 0)])
  | n => (n, [])
theorem ck_12016 : ∀ pc, px_cks pn_i12016 (bk_12016 pc).1 pc (bk_12016 pc).2 = true := by
  intro pc
  unfold bk_12016
  split <;> first | decide +kernel | simp [px_cks]
/-- NoThree.undo(I)I -/
def bk_12017 : Nat → Nat × List px_E := fun pc => match pc with
  | 0 => (22, [(0, .iload_n 1, 1, 1, 0, 0, .inl 0), (1, .iconst 1, 1, 0, 0, 0, .inl (nI 1)), (2, .if_icmp .lt 20, 3, 22, 0, 0, .inl 0), (5, .iload_n 1, 1, 1, 0, 0, .inl 0), (6, .bipush 12, 2, 0, 0, 0, .inl (nI 12)), (8, .if_icmp .gt 14, 3, 22, 0, 0, .inl 0), (11, .iload_n 1, 1, 1, 0, 0, .inl 0), (12, .aload_n 0, 1, 0, 0, 0, .inl 0), (13, .getfield 12, 3, 12, 0, 2, .inl 0), (16, .getfield 219, 3, 1, 3, 0, .inl 0), (19, .if_icmp .le 6, 3, 25, 0, 0, .inl 0)])
  | 22 => (25, [(22, .bipush (-3), 2, 0, 0, 0, .inl (-3)), (24, .ireturn, 1, 0, 0, 0, .inl 0)])
  | 25 => (41, [(25, .aload_n 0, 1, 0, 0, 0, .inl 0), (26, .getfield 12, 3, 12, 0, 2, .inl 0), (29, .iload_n 1, 1, 1, 0, 0, .inl 0), (30, .invokevirtual 222, 3, 1005, 2, 1, .inl 0), (33, .aload_n 0, 1, 0, 0, 0, .inl 0), (34, .getfield 12, 3, 12, 0, 2, .inl 0), (37, .getfield 219, 3, 1, 3, 0, .inl 0), (40, .ireturn, 1, 0, 0, 0, .inl 0)])
  | n => (n, [])
theorem ck_12017 : ∀ pc, px_cks pn_i12017 (bk_12017 pc).1 pc (bk_12017 pc).2 = true := by
  intro pc
  unfold bk_12017
  split <;> first | decide +kernel | simp [px_cks]
/-- NoThree.judge(II)I -/
def bk_12018 : Nat → Nat × List px_E := fun pc => match pc with
  | 0 => (16, [(0, .iload_n 1, 1, 1, 0, 0, .inl 0), (1, .invokestatic 225, 3, 12055, 1, 0, .inl 0), (4, .ifCond .eq 12, 3, 16, 0, 0, .inl 0), (7, .iload_n 2, 1, 2, 0, 0, .inl 0), (8, .ifCond .lt 8, 3, 16, 0, 0, .inl 0), (11, .iload_n 2, 1, 2, 0, 0, .inl 0), (12, .iconst 3, 1, 0, 0, 0, .inl (nI 3)), (13, .if_icmp .le 6, 3, 19, 0, 0, .inl 0)])
  | 16 => (19, [(16, .bipush (-2), 2, 0, 0, 0, .inl (-2)), (18, .ireturn, 1, 0, 0, 0, .inl 0)])
  | 19 => (28, [(19, .aload_n 0, 1, 0, 0, 0, .inl 0), (20, .getfield 97, 3, 12, 15, 2, .inl 0), (23, .iload_n 1, 1, 1, 0, 0, .inl 0), (24, .iaload, 1, 0, 0, 0, .inl 0), (25, .ifCond .ge 6, 3, 31, 0, 0, .inl 0)])
  | 28 => (31, [(28, .bipush (-6), 2, 0, 0, 0, .inl (-6)), (30, .ireturn, 1, 0, 0, 0, .inl 0)])
  | 31 => (50, [(31, .aload_n 0, 1, 0, 0, 0, .inl 0), (32, .getfield 85, 3, 12, 12, 2, .inl 0), (35, .aload_n 0, 1, 0, 0, 0, .inl 0), (36, .getfield 12, 3, 12, 0, 2, .inl 0), (39, .getfield 131, 3, 1, 0, 2, .inl 0), (42, .invokevirtual 228, 3, 11007, 2, 11, .inl 0), (45, .iconst (-1), 1, 0, 0, 0, .inl (-1)), (46, .istore_n 3, 1, 3, 0, 0, .inl 0), (47, .iconst 0, 1, 0, 0, 0, .inl (nI 0)), (48, .istore 4, 2, 4, 0, 0, .inl 0)])
  | 50 => (53, [(50, .iconst 0, 1, 0, 0, 0, .inl (nI 0)), (51, .istore 5, 2, 5, 0, 0, .inl 0)])
  | 53 => (78, [(53, .iload 5, 2, 5, 0, 0, .inl 0), (55, .aload_n 0, 1, 0, 0, 0, .inl 0), (56, .getfield 97, 3, 12, 15, 2, .inl 0), (59, .iload_n 1, 1, 1, 0, 0, .inl 0), (60, .iaload, 1, 0, 0, 0, .inl 0), (61, .if_icmp .ge 55, 3, 116, 0, 0, .inl 0), (64, .iload 4, 2, 4, 0, 0, .inl 0), (66, .ifCond .ne 50, 3, 116, 0, 0, .inl 0), (69, .aload_n 0, 1, 0, 0, 0, .inl 0), (70, .iload_n 1, 1, 1, 0, 0, .inl 0), (71, .iload 5, 2, 5, 0, 0, .inl 0), (73, .invokevirtual 230, 3, 12066, 3, 12, .inl 0), (76, .lstore 6, 2, 6, 0, 0, .inl 0)])
  | 78 => (107, [(78, .aload_n 0, 1, 0, 0, 0, .inl 0), (79, .aload_n 0, 1, 0, 0, 0, .inl 0), (80, .getfield 85, 3, 12, 12, 2, .inl 0), (83, .lload 6, 2, 6, 0, 0, .inl 0), (85, .invokevirtual 234, 3, 12064, 3, 12, .inl 0), (88, .istore 4, 2, 4, 0, 0, .inl 0), (90, .iload 4, 2, 4, 0, 0, .inl 0), (92, .ifCond .ne 15, 3, 107, 0, 0, .inl 0), (95, .aload_n 0, 1, 0, 0, 0, .inl 0), (96, .getfield 85, 3, 12, 12, 2, .inl 0), (99, .lload 6, 2, 6, 0, 0, .inl 0), (101, .invokestatic 238, 3, 12065, 2, 0, .inl 0), (104, .goto 6, 3, 110, 0, 0, .inl 0)])
  | 107 => (110, [(107, .iload 5, 2, 5, 0, 0, .inl 0), (109, .istore_n 3, 1, 3, 0, 0, .inl 0)])
  | 110 => (116, [(110, .iinc 5 1, 3, 5, 0, 0, .inl (nI 1)), (113, .goto (-60), 3, 53, 0, 0, .inl 0)])
  | 116 => (144, [(116, .iload_n 2, 1, 2, 0, 0, .inl 0), (117, .tableswitch 40 0 2 #[27, 29, 32], 27, 9, 0, 0, .inl 0)])
  | 144 => (146, [(144, .iload_n 3, 1, 3, 0, 0, .inl 0), (145, .ireturn, 1, 0, 0, 0, .inl 0)])
  | 146 => (149, [(146, .iload 4, 2, 4, 0, 0, .inl 0), (148, .ireturn, 1, 0, 0, 0, .inl 0)])
  | 149 => (157, [(149, .aload_n 0, 1, 0, 0, 0, .inl 0), (150, .getfield 85, 3, 12, 12, 2, .inl 0), (153, .invokevirtual 197, 3, 11015, 1, 11, .inl 0), (156, .ireturn, 1, 0, 0, 0, .inl 0)])
  | 157 => (165, [(157, .aload_n 0, 1, 0, 0, 0, .inl 0), (158, .getfield 85, 3, 12, 12, 2, .inl 0), (161, .invokevirtual 242, 3, 11023, 1, 11, .inl 0), (164, .ireturn, 1, 0, 0, 0, .inl 0)])
  | n => (n, [])
theorem ck_12018 : ∀ pc, px_cks pn_i12018 (bk_12018 pc).1 pc (bk_12018 pc).2 = true := by
  intro pc
  unfold bk_12018
  split <;> first | decide +kernel | simp [px_cks]
/-- NoThree.perform(I)I -/
def bk_12019 : Nat → Nat × List px_E := fun pc => match pc with
  | 0 => (10, [(0, .iload_n 1, 1, 1, 0, 0, .inl 0), (1, .invokestatic 225, 3, 12055, 1, 0, .inl 0), (4, .ifCond .ne 6, 3, 10, 0, 0, .inl 0), (7, .bipush (-2), 2, 0, 0, 0, .inl (-2)), (9, .ireturn, 1, 0, 0, 0, .inl 0)])
  | 10 => (22, [(10, .aload_n 0, 1, 0, 0, 0, .inl 0), (11, .getfield 97, 3, 12, 15, 2, .inl 0), (14, .iload_n 1, 1, 1, 0, 0, .inl 0), (15, .iaload, 1, 0, 0, 0, .inl 0), (16, .ifCond .ge 6, 3, 22, 0, 0, .inl 0), (19, .bipush (-6), 2, 0, 0, 0, .inl (-6)), (21, .ireturn, 1, 0, 0, 0, .inl 0)])
  | 22 => (26, [(22, .iconst 0, 1, 0, 0, 0, .inl (nI 0)), (23, .istore_n 2, 1, 2, 0, 0, .inl 0), (24, .iconst 0, 1, 0, 0, 0, .inl (nI 0)), (25, .istore_n 3, 1, 3, 0, 0, .inl 0)])
  | 26 => (63, [(26, .iload_n 3, 1, 3, 0, 0, .inl 0), (27, .aload_n 0, 1, 0, 0, 0, .inl 0), (28, .getfield 97, 3, 12, 15, 2, .inl 0), (31, .iload_n 1, 1, 1, 0, 0, .inl 0), (32, .iaload, 1, 0, 0, 0, .inl 0), (33, .if_icmp .ge 58, 3, 91, 0, 0, .inl 0), (36, .aload_n 0, 1, 0, 0, 0, .inl 0), (37, .iload_n 1, 1, 1, 0, 0, .inl 0), (38, .iload_n 3, 1, 3, 0, 0, .inl 0), (39, .invokevirtual 230, 3, 12066, 3, 12, .inl 0), (42, .lstore 4, 2, 4, 0, 0, .inl 0), (44, .aload_n 0, 1, 0, 0, 0, .inl 0), (45, .aload_n 0, 1, 0, 0, 0, .inl 0), (46, .getfield 12, 3, 12, 0, 2, .inl 0), (49, .getfield 131, 3, 1, 0, 2, .inl 0), (52, .lload 4, 2, 4, 0, 0, .inl 0), (54, .invokevirtual 234, 3, 12064, 3, 12, .inl 0), (57, .ifCond .eq 6, 3, 63, 0, 0, .inl 0), (60, .goto 31, 3, 91, 0, 0, .inl 0)])
  | 63 => (91, [(63, .aload_n 0, 1, 0, 0, 0, .inl 0), (64, .getfield 12, 3, 12, 0, 2, .inl 0), (67, .invokevirtual 190, 3, 1004, 1, 1, .inl 0), (70, .aload_n 0, 1, 0, 0, 0, .inl 0), (71, .getfield 12, 3, 12, 0, 2, .inl 0), (74, .getfield 131, 3, 1, 0, 2, .inl 0), (77, .lload 4, 2, 4, 0, 0, .inl 0), (79, .invokestatic 238, 3, 12065, 2, 0, .inl 0), (82, .iinc 2 1, 3, 2, 0, 0, .inl (nI 1)), (85, .iinc 3 1, 3, 3, 0, 0, .inl (nI 1)), (88, .goto (-62), 3, 26, 0, 0, .inl 0)])
  | 91 => (93, [(91, .iload_n 2, 1, 2, 0, 0, .inl 0), (92, .ireturn, 1, 0, 0, 0, .inl 0)])
  | n => (n, [])
theorem ck_12019 : ∀ pc, px_cks pn_i12019 (bk_12019 pc).1 pc (bk_12019 pc).2 = true := by
  intro pc
  unfold bk_12019
  split <;> first | decide +kernel | simp [px_cks]
/-- NoThree.grow(I)I -/
def bk_12020 : Nat → Nat × List px_E := fun pc => match pc with
  | 0 => (11, [(0, .iload_n 1, 1, 1, 0, 0, .inl 0), (1, .iconst 1, 1, 0, 0, 0, .inl (nI 1)), (2, .if_icmp .lt 9, 3, 11, 0, 0, .inl 0), (5, .iload_n 1, 1, 1, 0, 0, .inl 0), (6, .bipush 11, 2, 0, 0, 0, .inl (nI 11)), (8, .if_icmp .le 6, 3, 14, 0, 0, .inl 0)])
  | 11 => (14, [(11, .bipush (-3), 2, 0, 0, 0, .inl (-3)), (13, .ireturn, 1, 0, 0, 0, .inl 0)])
  | 14 => (18, [(14, .iconst 0, 1, 0, 0, 0, .inl (nI 0)), (15, .istore_n 2, 1, 2, 0, 0, .inl 0), (16, .iconst 0, 1, 0, 0, 0, .inl (nI 0)), (17, .istore_n 3, 1, 3, 0, 0, .inl 0)])
  | 18 => (38, [(18, .iload_n 3, 1, 3, 0, 0, .inl 0), (19, .iload_n 1, 1, 1, 0, 0, .inl 0), (20, .if_icmp .ge 33, 3, 53, 0, 0, .inl 0), (23, .aload_n 0, 1, 0, 0, 0, .inl 0), (24, .invokevirtual 245, 3, 12063, 1, 12, .inl 0), (27, .istore 4, 2, 4, 0, 0, .inl 0), (29, .iload 4, 2, 4, 0, 0, .inl 0), (31, .iconst (-1), 1, 0, 0, 0, .inl (-1)), (32, .if_icmp .ne 6, 3, 38, 0, 0, .inl 0), (35, .goto 18, 3, 53, 0, 0, .inl 0)])
  | 38 => (53, [(38, .aload_n 0, 1, 0, 0, 0, .inl 0), (39, .iload 4, 2, 4, 0, 0, .inl 0), (41, .invokevirtual 210, 3, 12061, 2, 12, .inl 0), (44, .iinc 2 1, 3, 2, 0, 0, .inl (nI 1)), (47, .iinc 3 1, 3, 3, 0, 0, .inl (nI 1)), (50, .goto (-32), 3, 18, 0, 0, .inl 0)])
  | 53 => (55, [(53, .iload_n 2, 1, 2, 0, 0, .inl 0), (54, .ireturn, 1, 0, 0, 0, .inl 0)])
  | n => (n, [])
theorem ck_12020 : ∀ pc, px_cks pn_i12020 (bk_12020 pc).1 pc (bk_12020 pc).2 = true := by
  intro pc
  unfold bk_12020
  split <;> first | decide +kernel | simp [px_cks]
/-- NoThree.century(II)I -/
def bk_12021 : Nat → Nat × List px_E := fun pc => match pc with
  | 0 => (11, [(0, .iload_n 2, 1, 2, 0, 0, .inl 0), (1, .iconst 1, 1, 0, 0, 0, .inl (nI 1)), (2, .if_icmp .lt 9, 3, 11, 0, 0, .inl 0), (5, .iload_n 2, 1, 2, 0, 0, .inl 0), (6, .bipush 60, 2, 0, 0, 0, .inl (nI 60)), (8, .if_icmp .le 6, 3, 14, 0, 0, .inl 0)])
  | 11 => (14, [(11, .bipush (-3), 2, 0, 0, 0, .inl (-3)), (13, .ireturn, 1, 0, 0, 0, .inl 0)])
  | 14 => (32, [(14, .aload_n 0, 1, 0, 0, 0, .inl 0), (15, .getfield 12, 3, 12, 0, 2, .inl 0), (18, .getfield 131, 3, 1, 0, 2, .inl 0), (21, .getfield 179, 3, 11, 0, 0, .inl 0), (24, .istore_n 3, 1, 3, 0, 0, .inl 0), (25, .iload_n 3, 1, 3, 0, 0, .inl 0), (26, .ifCond .gt 6, 3, 32, 0, 0, .inl 0), (29, .bipush (-5), 2, 0, 0, 0, .inl (-5)), (31, .ireturn, 1, 0, 0, 0, .inl 0)])
  | 32 => (41, [(32, .iload_n 1, 1, 1, 0, 0, .inl 0), (33, .istore 4, 2, 4, 0, 0, .inl 0), (35, .iconst 0, 1, 0, 0, 0, .inl (nI 0)), (36, .istore 5, 2, 5, 0, 0, .inl 0), (38, .iconst 0, 1, 0, 0, 0, .inl (nI 0)), (39, .istore 6, 2, 6, 0, 0, .inl 0)])
  | 41 => (63, [(41, .iload 6, 2, 6, 0, 0, .inl 0), (43, .iload_n 2, 1, 2, 0, 0, .inl 0), (44, .if_icmp .ge 99, 3, 143, 0, 0, .inl 0), (47, .iload 4, 2, 4, 0, 0, .inl 0), (49, .invokestatic 248, 3, 12059, 1, 0, .inl 0), (52, .istore 4, 2, 4, 0, 0, .inl 0), (54, .iload 4, 2, 4, 0, 0, .inl 0), (56, .bipush 16, 2, 0, 0, 0, .inl (nI 16)), (58, .iushr, 1, 0, 0, 0, .inl 0), (59, .iload_n 3, 1, 3, 0, 0, .inl 0), (60, .irem, 1, 0, 0, 0, .inl 0), (61, .istore 7, 2, 7, 0, 0, .inl 0)])
  | 63 => (79, [(63, .iload 4, 2, 4, 0, 0, .inl 0), (65, .invokestatic 248, 3, 12059, 1, 0, .inl 0), (68, .istore 4, 2, 4, 0, 0, .inl 0), (70, .iload 4, 2, 4, 0, 0, .inl 0), (72, .bipush 16, 2, 0, 0, 0, .inl (nI 16)), (74, .iushr, 1, 0, 0, 0, .inl 0), (75, .iload_n 3, 1, 3, 0, 0, .inl 0), (76, .irem, 1, 0, 0, 0, .inl 0), (77, .istore 8, 2, 8, 0, 0, .inl 0)])
  | 79 => (100, [(79, .iload 4, 2, 4, 0, 0, .inl 0), (81, .invokestatic 248, 3, 12059, 1, 0, .inl 0), (84, .istore 4, 2, 4, 0, 0, .inl 0), (86, .iload 4, 2, 4, 0, 0, .inl 0), (88, .bipush 16, 2, 0, 0, 0, .inl (nI 16)), (90, .iushr, 1, 0, 0, 0, .inl 0), (91, .iconst 4, 1, 0, 0, 0, .inl (nI 4)), (92, .irem, 1, 0, 0, 0, .inl 0), (93, .ifCond .ne 7, 3, 100, 0, 0, .inl 0), (96, .iconst 1, 1, 0, 0, 0, .inl (nI 1)), (97, .goto 4, 3, 101, 0, 0, .inl 0)])
  | 100 => (101, [(100, .iconst 0, 1, 0, 0, 0, .inl (nI 0))])
  | 101 => (119, [(101, .istore 9, 2, 9, 0, 0, .inl 0), (103, .iload 9, 2, 9, 0, 0, .inl 0), (105, .ifCond .eq 14, 3, 119, 0, 0, .inl 0), (108, .aload_n 0, 1, 0, 0, 0, .inl 0), (109, .iload 7, 2, 7, 0, 0, .inl 0), (111, .iload 8, 2, 8, 0, 0, .inl 0), (113, .invokevirtual 251, 3, 12012, 3, 12, .inl 0), (116, .goto 11, 3, 127, 0, 0, .inl 0)])
  | 119 => (127, [(119, .aload_n 0, 1, 0, 0, 0, .inl 0), (120, .iload 7, 2, 7, 0, 0, .inl 0), (122, .iload 8, 2, 8, 0, 0, .inl 0), (124, .invokevirtual 254, 3, 12011, 3, 12, .inl 0)])
  | 127 => (129, [(127, .istore 10, 2, 10, 0, 0, .inl 0)])
  | 129 => (137, [(129, .iload 10, 2, 10, 0, 0, .inl 0), (131, .ifCond .lt 6, 3, 137, 0, 0, .inl 0), (134, .iinc 5 1, 3, 5, 0, 0, .inl (nI 1))])
  | 137 => (143, [(137, .iinc 6 1, 3, 6, 0, 0, .inl (nI 1)), (140, .goto (-99), 3, 41, 0, 0, .inl 0)])
  | 143 => (146, [(143, .iload 5, 2, 5, 0, 0, .inl 0), (145, .ireturn, 1, 0, 0, 0, .inl 0)])
  | n => (n, [])
theorem ck_12021 : ∀ pc, px_cks pn_i12021 (bk_12021 pc).1 pc (bk_12021 pc).2 = true := by
  intro pc
  unfold bk_12021
  split <;> first | decide +kernel | simp [px_cks]
/-- NoThree.three(I)I -/
def bk_12022 : Nat → Nat × List px_E := fun pc => match pc with
  | 0 => (16, [(0, .iload_n 1, 1, 1, 0, 0, .inl 0), (1, .iconst (-1), 1, 0, 0, 0, .inl (-1)), (2, .if_icmp .ne 14, 3, 16, 0, 0, .inl 0), (5, .aload_n 0, 1, 0, 0, 0, .inl 0), (6, .getfield 12, 3, 12, 0, 2, .inl 0), (9, .getfield 131, 3, 1, 0, 2, .inl 0), (12, .invokevirtual 242, 3, 11023, 1, 11, .inl 0), (15, .ireturn, 1, 0, 0, 0, .inl 0)])
  | 16 => (28, [(16, .aload_n 0, 1, 0, 0, 0, .inl 0), (17, .getfield 12, 3, 12, 0, 2, .inl 0), (20, .getfield 131, 3, 1, 0, 2, .inl 0), (23, .iload_n 1, 1, 1, 0, 0, .inl 0), (24, .invokevirtual 257, 3, 11024, 2, 11, .inl 0), (27, .ireturn, 1, 0, 0, 0, .inl 0)])
  | n => (n, [])
theorem ck_12022 : ∀ pc, px_cks pn_i12022 (bk_12022 pc).1 pc (bk_12022 pc).2 = true := by
  intro pc
  unfold bk_12022
  split <;> first | decide +kernel | simp [px_cks]
/-- NoThree.fours()I -/
def bk_12023 : Nat → Nat × List px_E := fun pc => match pc with
  | 0 => (11, [(0, .aload_n 0, 1, 0, 0, 0, .inl 0), (1, .getfield 12, 3, 12, 0, 2, .inl 0), (4, .getfield 131, 3, 1, 0, 2, .inl 0), (7, .invokevirtual 260, 3, 11028, 1, 11, .inl 0), (10, .ireturn, 1, 0, 0, 0, .inl 0)])
  | n => (n, [])
theorem ck_12023 : ∀ pc, px_cks pn_i12023 (bk_12023 pc).1 pc (bk_12023 pc).2 = true := by
  intro pc
  unfold bk_12023
  split <;> first | decide +kernel | simp [px_cks]
/-- NoThree.scandal()I -/
def bk_12024 : Nat → Nat × List px_E := fun pc => match pc with
  | 0 => (11, [(0, .aload_n 0, 1, 0, 0, 0, .inl 0), (1, .getfield 12, 3, 12, 0, 2, .inl 0), (4, .getfield 131, 3, 1, 0, 2, .inl 0), (7, .invokevirtual 263, 3, 11029, 1, 11, .inl 0), (10, .ireturn, 1, 0, 0, 0, .inl 0)])
  | n => (n, [])
theorem ck_12024 : ∀ pc, px_cks pn_i12024 (bk_12024 pc).1 pc (bk_12024 pc).2 = true := by
  intro pc
  unfold bk_12024
  split <;> first | decide +kernel | simp [px_cks]
/-- NoThree.halves()I -/
def bk_12025 : Nat → Nat × List px_E := fun pc => match pc with
  | 0 => (21, [(0, .aload_n 0, 1, 0, 0, 0, .inl 0), (1, .getfield 12, 3, 12, 0, 2, .inl 0), (4, .getfield 131, 3, 1, 0, 2, .inl 0), (7, .aload_n 0, 1, 0, 0, 0, .inl 0), (8, .getfield 12, 3, 12, 0, 2, .inl 0), (11, .getfield 131, 3, 1, 0, 2, .inl 0), (14, .invokevirtual 266, 3, 11004, 1, 11, .inl 0), (17, .invokevirtual 269, 3, 11031, 2, 11, .inl 0), (20, .ireturn, 1, 0, 0, 0, .inl 0)])
  | n => (n, [])
theorem ck_12025 : ∀ pc, px_cks pn_i12025 (bk_12025 pc).1 pc (bk_12025 pc).2 = true := by
  intro pc
  unfold bk_12025
  split <;> first | decide +kernel | simp [px_cks]
/-- NoThree.strangers()I -/
def bk_12026 : Nat → Nat × List px_E := fun pc => match pc with
  | 0 => (11, [(0, .aload_n 0, 1, 0, 0, 0, .inl 0), (1, .getfield 12, 3, 12, 0, 2, .inl 0), (4, .getfield 131, 3, 1, 0, 2, .inl 0), (7, .invokevirtual 272, 3, 11032, 1, 11, .inl 0), (10, .ireturn, 1, 0, 0, 0, .inl 0)])
  | n => (n, [])
theorem ck_12026 : ∀ pc, px_cks pn_i12026 (bk_12026 pc).1 pc (bk_12026 pc).2 = true := by
  intro pc
  unfold bk_12026
  split <;> first | decide +kernel | simp [px_cks]
/-- NoThree.six(I)I -/
def bk_12027 : Nat → Nat × List px_E := fun pc => match pc with
  | 0 => (9, [(0, .iload_n 1, 1, 1, 0, 0, .inl 0), (1, .ifCond .lt 8, 3, 9, 0, 0, .inl 0), (4, .iload_n 1, 1, 1, 0, 0, .inl 0), (5, .iconst 1, 1, 0, 0, 0, .inl (nI 1)), (6, .if_icmp .le 6, 3, 12, 0, 0, .inl 0)])
  | 9 => (12, [(9, .bipush (-2), 2, 0, 0, 0, .inl (-2)), (11, .ireturn, 1, 0, 0, 0, .inl 0)])
  | 12 => (30, [(12, .aload_n 0, 1, 0, 0, 0, .inl 0), (13, .getfield 12, 3, 12, 0, 2, .inl 0), (16, .getfield 131, 3, 1, 0, 2, .inl 0), (19, .invokevirtual 275, 3, 11033, 1, 11, .inl 0), (22, .istore_n 2, 1, 2, 0, 0, .inl 0), (23, .iload_n 2, 1, 2, 0, 0, .inl 0), (24, .iconst (-1), 1, 0, 0, 0, .inl (-1)), (25, .if_icmp .ne 5, 3, 30, 0, 0, .inl 0), (28, .iconst (-1), 1, 0, 0, 0, .inl (-1)), (29, .ireturn, 1, 0, 0, 0, .inl 0)])
  | 30 => (48, [(30, .iload_n 1, 1, 1, 0, 0, .inl 0), (31, .ifCond .ne 17, 3, 48, 0, 0, .inl 0), (34, .aload_n 0, 1, 0, 0, 0, .inl 0), (35, .getfield 12, 3, 12, 0, 2, .inl 0), (38, .getfield 131, 3, 1, 0, 2, .inl 0), (41, .iload_n 2, 1, 2, 0, 0, .inl 0), (42, .invokevirtual 278, 3, 11034, 2, 11, .inl 0), (45, .goto 4, 3, 49, 0, 0, .inl 0)])
  | 48 => (49, [(48, .iload_n 2, 1, 2, 0, 0, .inl 0)])
  | 49 => (50, [(49, .ireturn, 1, 0, 0, 0, .inl 0)])
  | n => (n, [])
theorem ck_12027 : ∀ pc, px_cks pn_i12027 (bk_12027 pc).1 pc (bk_12027 pc).2 = true := by
  intro pc
  unfold bk_12027
  split <;> first | decide +kernel | simp [px_cks]
/-- NoThree.feasts()I -/
def bk_12028 : Nat → Nat × List px_E := fun pc => match pc with
  | 0 => (22, [(0, .aload_n 0, 1, 0, 0, 0, .inl 0), (1, .getfield 36, 3, 12, 5, 2, .inl 0), (4, .aload_n 0, 1, 0, 0, 0, .inl 0), (5, .getfield 12, 3, 12, 0, 2, .inl 0), (8, .getfield 131, 3, 1, 0, 2, .inl 0), (11, .invokevirtual 281, 3, 3002, 2, 3, .inl 0), (14, .aload_n 0, 1, 0, 0, 0, .inl 0), (15, .getfield 36, 3, 12, 5, 2, .inl 0), (18, .invokevirtual 284, 3, 3005, 1, 3, .inl 0), (21, .ireturn, 1, 0, 0, 0, .inl 0)])
  | n => (n, [])
theorem ck_12028 : ∀ pc, px_cks pn_i12028 (bk_12028 pc).1 pc (bk_12028 pc).2 = true := by
  intro pc
  unfold bk_12028
  split <;> first | decide +kernel | simp [px_cks]
/-- NoThree.full()I -/
def bk_12029 : Nat → Nat × List px_E := fun pc => match pc with
  | 0 => (22, [(0, .aload_n 0, 1, 0, 0, 0, .inl 0), (1, .getfield 36, 3, 12, 5, 2, .inl 0), (4, .aload_n 0, 1, 0, 0, 0, .inl 0), (5, .getfield 12, 3, 12, 0, 2, .inl 0), (8, .getfield 131, 3, 1, 0, 2, .inl 0), (11, .invokevirtual 281, 3, 3002, 2, 3, .inl 0), (14, .aload_n 0, 1, 0, 0, 0, .inl 0), (15, .getfield 36, 3, 12, 5, 2, .inl 0), (18, .invokevirtual 287, 3, 3006, 1, 3, .inl 0), (21, .ireturn, 1, 0, 0, 0, .inl 0)])
  | n => (n, [])
theorem ck_12029 : ∀ pc, px_cks pn_i12029 (bk_12029 pc).1 pc (bk_12029 pc).2 = true := by
  intro pc
  unfold bk_12029
  split <;> first | decide +kernel | simp [px_cks]
/-- NoThree.feast(I)I -/
def bk_12030 : Nat → Nat × List px_E := fun pc => match pc with
  | 0 => (22, [(0, .iload_n 1, 1, 1, 0, 0, .inl 0), (1, .iconst (-1), 1, 0, 0, 0, .inl (-1)), (2, .if_icmp .eq 20, 3, 22, 0, 0, .inl 0), (5, .aload_n 0, 1, 0, 0, 0, .inl 0), (6, .getfield 12, 3, 12, 0, 2, .inl 0), (9, .getfield 131, 3, 1, 0, 2, .inl 0), (12, .iload_n 1, 1, 1, 0, 0, .inl 0), (13, .invokevirtual 134, 3, 11002, 2, 11, .inl 0), (16, .ifCond .ne 6, 3, 22, 0, 0, .inl 0), (19, .bipush (-2), 2, 0, 0, 0, .inl (-2)), (21, .ireturn, 1, 0, 0, 0, .inl 0)])
  | 22 => (49, [(22, .aload_n 0, 1, 0, 0, 0, .inl 0), (23, .getfield 36, 3, 12, 5, 2, .inl 0), (26, .aload_n 0, 1, 0, 0, 0, .inl 0), (27, .getfield 12, 3, 12, 0, 2, .inl 0), (30, .getfield 131, 3, 1, 0, 2, .inl 0), (33, .invokevirtual 281, 3, 3002, 2, 3, .inl 0), (36, .aload_n 0, 1, 0, 0, 0, .inl 0), (37, .getfield 36, 3, 12, 5, 2, .inl 0), (40, .iload_n 1, 1, 1, 0, 0, .inl 0), (41, .iconst (-1), 1, 0, 0, 0, .inl (-1)), (42, .if_icmp .ne 7, 3, 49, 0, 0, .inl 0), (45, .iconst 0, 1, 0, 0, 0, .inl (nI 0)), (46, .goto 6, 3, 52, 0, 0, .inl 0)])
  | 49 => (52, [(49, .iconst 1, 1, 0, 0, 0, .inl (nI 1)), (50, .iload_n 1, 1, 1, 0, 0, .inl 0), (51, .ishl, 1, 0, 0, 0, .inl 0)])
  | 52 => (56, [(52, .invokevirtual 290, 3, 3007, 2, 3, .inl 0), (55, .ireturn, 1, 0, 0, 0, .inl 0)])
  | n => (n, [])
theorem ck_12030 : ∀ pc, px_cks pn_i12030 (bk_12030 pc).1 pc (bk_12030 pc).2 = true := by
  intro pc
  unfold bk_12030
  split <;> first | decide +kernel | simp [px_cks]
/-- NoThree.colours()I -/
def bk_12031 : Nat → Nat × List px_E := fun pc => match pc with
  | 0 => (25, [(0, .aload_n 0, 1, 0, 0, 0, .inl 0), (1, .getfield 43, 3, 12, 6, 2, .inl 0), (4, .aload_n 0, 1, 0, 0, 0, .inl 0), (5, .getfield 12, 3, 12, 0, 2, .inl 0), (8, .getfield 131, 3, 1, 0, 2, .inl 0), (11, .aload_n 0, 1, 0, 0, 0, .inl 0), (12, .getfield 12, 3, 12, 0, 2, .inl 0), (15, .getfield 131, 3, 1, 0, 2, .inl 0), (18, .invokevirtual 266, 3, 11004, 1, 11, .inl 0), (21, .invokevirtual 293, 3, 8002, 3, 8, .inl 0), (24, .ireturn, 1, 0, 0, 0, .inl 0)])
  | n => (n, [])
theorem ck_12031 : ∀ pc, px_cks pn_i12031 (bk_12031 pc).1 pc (bk_12031 pc).2 = true := by
  intro pc
  unfold bk_12031
  split <;> first | decide +kernel | simp [px_cks]
/-- NoThree.colour(I)I -/
def bk_12032 : Nat → Nat × List px_E := fun pc => match pc with
  | 0 => (17, [(0, .aload_n 0, 1, 0, 0, 0, .inl 0), (1, .getfield 12, 3, 12, 0, 2, .inl 0), (4, .getfield 131, 3, 1, 0, 2, .inl 0), (7, .iload_n 1, 1, 1, 0, 0, .inl 0), (8, .invokevirtual 134, 3, 11002, 2, 11, .inl 0), (11, .ifCond .ne 6, 3, 17, 0, 0, .inl 0), (14, .bipush (-2), 2, 0, 0, 0, .inl (-2)), (16, .ireturn, 1, 0, 0, 0, .inl 0)])
  | 17 => (33, [(17, .aload_n 0, 1, 0, 0, 0, .inl 0), (18, .getfield 43, 3, 12, 6, 2, .inl 0), (21, .aload_n 0, 1, 0, 0, 0, .inl 0), (22, .getfield 12, 3, 12, 0, 2, .inl 0), (25, .getfield 131, 3, 1, 0, 2, .inl 0), (28, .iload_n 1, 1, 1, 0, 0, .inl 0), (29, .invokevirtual 297, 3, 8006, 3, 8, .inl 0), (32, .ireturn, 1, 0, 0, 0, .inl 0)])
  | n => (n, [])
theorem ck_12032 : ∀ pc, px_cks pn_i12032 (bk_12032 pc).1 pc (bk_12032 pc).2 = true := by
  intro pc
  unfold bk_12032
  split <;> first | decide +kernel | simp [px_cks]
/-- NoThree.ways(I)J -/
def bk_12033 : Nat → Nat × List px_E := fun pc => match pc with
  | 0 => (10, [(0, .iload_n 1, 1, 1, 0, 0, .inl 0), (1, .ifCond .lt 9, 3, 10, 0, 0, .inl 0), (4, .iload_n 1, 1, 1, 0, 0, .inl 0), (5, .bipush 6, 2, 0, 0, 0, .inl (nI 6)), (7, .if_icmp .le 7, 3, 14, 0, 0, .inl 0)])
  | 10 => (14, [(10, .ldc2_w 300, 3, 0, 0, 0, .inr (.inl (-3))), (13, .lreturn, 1, 0, 0, 0, .inl 0)])
  | 14 => (30, [(14, .aload_n 0, 1, 0, 0, 0, .inl 0), (15, .getfield 43, 3, 12, 6, 2, .inl 0), (18, .aload_n 0, 1, 0, 0, 0, .inl 0), (19, .getfield 12, 3, 12, 0, 2, .inl 0), (22, .getfield 131, 3, 1, 0, 2, .inl 0), (25, .iload_n 1, 1, 1, 0, 0, .inl 0), (26, .invokevirtual 302, 3, 8008, 3, 8, .inl 0), (29, .lreturn, 1, 0, 0, 0, .inl 0)])
  | n => (n, [])
theorem ck_12033 : ∀ pc, px_cks pn_i12033 (bk_12033 pc).1 pc (bk_12033 pc).2 = true := by
  intro pc
  unfold bk_12033
  split <;> first | decide +kernel | simp [px_cks]
/-- NoThree.dear()I -/
def bk_12034 : Nat → Nat × List px_E := fun pc => match pc with
  | 0 => (29, [(0, .aload_n 0, 1, 0, 0, 0, .inl 0), (1, .getfield 12, 3, 12, 0, 2, .inl 0), (4, .getfield 131, 3, 1, 0, 2, .inl 0), (7, .invokevirtual 266, 3, 11004, 1, 11, .inl 0), (10, .istore_n 1, 1, 1, 0, 0, .inl 0), (11, .aload_n 0, 1, 0, 0, 0, .inl 0), (12, .getfield 43, 3, 12, 6, 2, .inl 0), (15, .aload_n 0, 1, 0, 0, 0, .inl 0), (16, .getfield 12, 3, 12, 0, 2, .inl 0), (19, .getfield 131, 3, 1, 0, 2, .inl 0), (22, .iload_n 1, 1, 1, 0, 0, .inl 0), (23, .invokevirtual 293, 3, 8002, 3, 8, .inl 0), (26, .istore_n 2, 1, 2, 0, 0, .inl 0), (27, .iconst 0, 1, 0, 0, 0, .inl (nI 0)), (28, .istore_n 3, 1, 3, 0, 0, .inl 0)])
  | 29 => (70, [(29, .iload_n 3, 1, 3, 0, 0, .inl 0), (30, .aload_n 0, 1, 0, 0, 0, .inl 0), (31, .getfield 12, 3, 12, 0, 2, .inl 0), (34, .getfield 131, 3, 1, 0, 2, .inl 0), (37, .getfield 179, 3, 11, 0, 0, .inl 0), (40, .if_icmp .ge 36, 3, 76, 0, 0, .inl 0), (43, .aload_n 0, 1, 0, 0, 0, .inl 0), (44, .getfield 43, 3, 12, 6, 2, .inl 0), (47, .aload_n 0, 1, 0, 0, 0, .inl 0), (48, .getfield 12, 3, 12, 0, 2, .inl 0), (51, .getfield 131, 3, 1, 0, 2, .inl 0), (54, .iload_n 1, 1, 1, 0, 0, .inl 0), (55, .iconst 1, 1, 0, 0, 0, .inl (nI 1)), (56, .iload_n 3, 1, 3, 0, 0, .inl 0), (57, .ishl, 1, 0, 0, 0, .inl 0), (58, .iconst (-1), 1, 0, 0, 0, .inl (-1)), (59, .ixor, 1, 0, 0, 0, .inl 0), (60, .iand, 1, 0, 0, 0, .inl 0), (61, .invokevirtual 293, 3, 8002, 3, 8, .inl 0), (64, .iload_n 2, 1, 2, 0, 0, .inl 0), (65, .if_icmp .ge 5, 3, 70, 0, 0, .inl 0), (68, .iload_n 3, 1, 3, 0, 0, .inl 0), (69, .ireturn, 1, 0, 0, 0, .inl 0)])
  | 70 => (76, [(70, .iinc 3 1, 3, 3, 0, 0, .inl (nI 1)), (73, .goto (-44), 3, 29, 0, 0, .inl 0)])
  | 76 => (78, [(76, .iconst (-1), 1, 0, 0, 0, .inl (-1)), (77, .ireturn, 1, 0, 0, 0, .inl 0)])
  | n => (n, [])
theorem ck_12034 : ∀ pc, px_cks pn_i12034 (bk_12034 pc).1 pc (bk_12034 pc).2 = true := by
  intro pc
  unfold bk_12034
  split <;> first | decide +kernel | simp [px_cks]
/-- NoThree.telling(I)I -/
def bk_12035 : Nat → Nat × List px_E := fun pc => match pc with
  | 0 => (17, [(0, .aload_n 0, 1, 0, 0, 0, .inl 0), (1, .getfield 12, 3, 12, 0, 2, .inl 0), (4, .getfield 131, 3, 1, 0, 2, .inl 0), (7, .iload_n 1, 1, 1, 0, 0, .inl 0), (8, .invokevirtual 134, 3, 11002, 2, 11, .inl 0), (11, .ifCond .ne 6, 3, 17, 0, 0, .inl 0), (14, .bipush (-2), 2, 0, 0, 0, .inl (-2)), (16, .ireturn, 1, 0, 0, 0, .inl 0)])
  | 17 => (31, [(17, .aload_n 0, 1, 0, 0, 0, .inl 0), (18, .getfield 50, 3, 12, 7, 2, .inl 0), (21, .aload_n 0, 1, 0, 0, 0, .inl 0), (22, .getfield 12, 3, 12, 0, 2, .inl 0), (25, .getfield 131, 3, 1, 0, 2, .inl 0), (28, .invokevirtual 306, 3, 4002, 2, 4, .inl 0)])
  | 31 => (40, [(31, .aload_n 0, 1, 0, 0, 0, .inl 0), (32, .getfield 50, 3, 12, 7, 2, .inl 0), (35, .iload_n 1, 1, 1, 0, 0, .inl 0), (36, .invokevirtual 309, 3, 4004, 2, 4, .inl 0), (39, .ireturn, 1, 0, 0, 0, .inl 0)])
  | n => (n, [])
theorem ck_12035 : ∀ pc, px_cks pn_i12035 (bk_12035 pc).1 pc (bk_12035 pc).2 = true := by
  intro pc
  unfold bk_12035
  split <;> first | decide +kernel | simp [px_cks]
/-- NoThree.teller()I -/
def bk_12036 : Nat → Nat × List px_E := fun pc => match pc with
  | 0 => (22, [(0, .aload_n 0, 1, 0, 0, 0, .inl 0), (1, .getfield 50, 3, 12, 7, 2, .inl 0), (4, .aload_n 0, 1, 0, 0, 0, .inl 0), (5, .getfield 12, 3, 12, 0, 2, .inl 0), (8, .getfield 131, 3, 1, 0, 2, .inl 0), (11, .invokevirtual 306, 3, 4002, 2, 4, .inl 0), (14, .aload_n 0, 1, 0, 0, 0, .inl 0), (15, .getfield 50, 3, 12, 7, 2, .inl 0), (18, .invokevirtual 312, 3, 4003, 1, 4, .inl 0), (21, .ireturn, 1, 0, 0, 0, .inl 0)])
  | n => (n, [])
theorem ck_12036 : ∀ pc, px_cks pn_i12036 (bk_12036 pc).1 pc (bk_12036 pc).2 = true := by
  intro pc
  unfold bk_12036
  split <;> first | decide +kernel | simp [px_cks]
/-- NoThree.safe(II)I -/
def bk_12037 : Nat → Nat × List px_E := fun pc => match pc with
  | 0 => (17, [(0, .aload_n 0, 1, 0, 0, 0, .inl 0), (1, .getfield 12, 3, 12, 0, 2, .inl 0), (4, .getfield 131, 3, 1, 0, 2, .inl 0), (7, .iload_n 1, 1, 1, 0, 0, .inl 0), (8, .invokevirtual 134, 3, 11002, 2, 11, .inl 0), (11, .ifCond .ne 6, 3, 17, 0, 0, .inl 0), (14, .bipush (-2), 2, 0, 0, 0, .inl (-2)), (16, .ireturn, 1, 0, 0, 0, .inl 0)])
  | 17 => (27, [(17, .iload_n 2, 1, 2, 0, 0, .inl 0), (18, .ifCond .lt 9, 3, 27, 0, 0, .inl 0), (21, .iload_n 2, 1, 2, 0, 0, .inl 0), (22, .bipush 10, 2, 0, 0, 0, .inl (nI 10)), (24, .if_icmp .le 6, 3, 30, 0, 0, .inl 0)])
  | 27 => (30, [(27, .bipush (-3), 2, 0, 0, 0, .inl (-3)), (29, .ireturn, 1, 0, 0, 0, .inl 0)])
  | 30 => (56, [(30, .aload_n 0, 1, 0, 0, 0, .inl 0), (31, .getfield 12, 3, 12, 0, 2, .inl 0), (34, .getfield 131, 3, 1, 0, 2, .inl 0), (37, .invokevirtual 266, 3, 11004, 1, 11, .inl 0), (40, .aload_n 0, 1, 0, 0, 0, .inl 0), (41, .getfield 12, 3, 12, 0, 2, .inl 0), (44, .getfield 131, 3, 1, 0, 2, .inl 0), (47, .iload_n 1, 1, 1, 0, 0, .inl 0), (48, .iload_n 2, 1, 2, 0, 0, .inl 0), (49, .invokevirtual 153, 3, 11017, 3, 11, .inl 0), (52, .iconst (-1), 1, 0, 0, 0, .inl (-1)), (53, .ixor, 1, 0, 0, 0, .inl 0), (54, .iand, 1, 0, 0, 0, .inl 0), (55, .ireturn, 1, 0, 0, 0, .inl 0)])
  | n => (n, [])
theorem ck_12037 : ∀ pc, px_cks pn_i12037 (bk_12037 pc).1 pc (bk_12037 pc).2 = true := by
  intro pc
  unfold bk_12037
  split <;> first | decide +kernel | simp [px_cks]
