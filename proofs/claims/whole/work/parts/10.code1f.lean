/-- NoThree.wide(I)I -/
def bk_12038 : Nat → Nat × List px_E := fun pc => match pc with
  | 0 => (9, [(0, .iload_n 1, 1, 1, 0, 0, .inl 0), (1, .ifCond .lt 8, 3, 9, 0, 0, .inl 0), (4, .iload_n 1, 1, 1, 0, 0, .inl 0), (5, .iconst 1, 1, 0, 0, 0, .inl (nI 1)), (6, .if_icmp .le 6, 3, 12, 0, 0, .inl 0)])
  | 9 => (12, [(9, .bipush (-2), 2, 0, 0, 0, .inl (-2)), (11, .ireturn, 1, 0, 0, 0, .inl 0)])
  | 12 => (27, [(12, .aload_n 0, 1, 0, 0, 0, .inl 0), (13, .getfield 12, 3, 12, 0, 2, .inl 0), (16, .getfield 131, 3, 1, 0, 2, .inl 0), (19, .getfield 179, 3, 11, 0, 0, .inl 0), (22, .ifCond .ne 5, 3, 27, 0, 0, .inl 0), (25, .iconst (-1), 1, 0, 0, 0, .inl (-1)), (26, .ireturn, 1, 0, 0, 0, .inl 0)])
  | 27 => (34, [(27, .iconst 0, 1, 0, 0, 0, .inl (nI 0)), (28, .istore_n 2, 1, 2, 0, 0, .inl 0), (29, .iconst (-1), 1, 0, 0, 0, .inl (-1)), (30, .istore_n 3, 1, 3, 0, 0, .inl 0), (31, .iconst 0, 1, 0, 0, 0, .inl (nI 0)), (32, .istore 4, 2, 4, 0, 0, .inl 0)])
  | 34 => (55, [(34, .iload 4, 2, 4, 0, 0, .inl 0), (36, .aload_n 0, 1, 0, 0, 0, .inl 0), (37, .getfield 12, 3, 12, 0, 2, .inl 0), (40, .getfield 131, 3, 1, 0, 2, .inl 0), (43, .getfield 179, 3, 11, 0, 0, .inl 0), (46, .if_icmp .ge 70, 3, 116, 0, 0, .inl 0), (49, .iload 4, 2, 4, 0, 0, .inl 0), (51, .iconst 1, 1, 0, 0, 0, .inl (nI 1)), (52, .iadd, 1, 0, 0, 0, .inl 0), (53, .istore 5, 2, 5, 0, 0, .inl 0)])
  | 55 => (104, [(55, .iload 5, 2, 5, 0, 0, .inl 0), (57, .aload_n 0, 1, 0, 0, 0, .inl 0), (58, .getfield 12, 3, 12, 0, 2, .inl 0), (61, .getfield 131, 3, 1, 0, 2, .inl 0), (64, .getfield 179, 3, 11, 0, 0, .inl 0), (67, .if_icmp .ge 43, 3, 110, 0, 0, .inl 0), (70, .aload_n 0, 1, 0, 0, 0, .inl 0), (71, .getfield 12, 3, 12, 0, 2, .inl 0), (74, .getfield 131, 3, 1, 0, 2, .inl 0), (77, .iload 4, 2, 4, 0, 0, .inl 0), (79, .iload 5, 2, 5, 0, 0, .inl 0), (81, .invokevirtual 160, 3, 11020, 3, 11, .inl 0), (84, .istore 6, 2, 6, 0, 0, .inl 0), (86, .iload 6, 2, 6, 0, 0, .inl 0), (88, .iload_n 2, 1, 2, 0, 0, .inl 0), (89, .if_icmp .le 15, 3, 104, 0, 0, .inl 0), (92, .iload 6, 2, 6, 0, 0, .inl 0), (94, .istore_n 2, 1, 2, 0, 0, .inl 0), (95, .bipush 100, 2, 0, 0, 0, .inl (nI 100)), (97, .iload 4, 2, 4, 0, 0, .inl 0), (99, .imul, 1, 0, 0, 0, .inl 0), (100, .iload 5, 2, 5, 0, 0, .inl 0), (102, .iadd, 1, 0, 0, 0, .inl 0), (103, .istore_n 3, 1, 3, 0, 0, .inl 0)])
  | 104 => (110, [(104, .iinc 5 1, 3, 5, 0, 0, .inl (nI 1)), (107, .goto (-52), 3, 55, 0, 0, .inl 0)])
  | 110 => (116, [(110, .iinc 4 1, 3, 4, 0, 0, .inl (nI 1)), (113, .goto (-79), 3, 34, 0, 0, .inl 0)])
  | 116 => (124, [(116, .iload_n 1, 1, 1, 0, 0, .inl 0), (117, .ifCond .ne 7, 3, 124, 0, 0, .inl 0), (120, .iload_n 2, 1, 2, 0, 0, .inl 0), (121, .goto 4, 3, 125, 0, 0, .inl 0)])
  | 124 => (125, [(124, .iload_n 3, 1, 3, 0, 0, .inl 0)])
  | 125 => (126, [(125, .ireturn, 1, 0, 0, 0, .inl 0)])
  | n => (n, [])
theorem ck_12038 : ∀ pc, px_cks pn_i12038 (bk_12038 pc).1 pc (bk_12038 pc).2 = true := by
  intro pc
  unfold bk_12038
  split <;> first | decide +kernel | simp [px_cks]
/-- NoThree.mark()I -/
def bk_12039 : Nat → Nat × List px_E := fun pc => match pc with
  | 0 => (18, [(0, .aload_n 0, 1, 0, 0, 0, .inl 0), (1, .getfield 12, 3, 12, 0, 2, .inl 0), (4, .getfield 131, 3, 1, 0, 2, .inl 0), (7, .getfield 179, 3, 11, 0, 0, .inl 0), (10, .bipush 6, 2, 0, 0, 0, .inl (nI 6)), (12, .if_icmp .le 6, 3, 18, 0, 0, .inl 0), (15, .bipush (-4), 2, 0, 0, 0, .inl (-4)), (17, .ireturn, 1, 0, 0, 0, .inl 0)])
  | 18 => (33, [(18, .aload_n 0, 1, 0, 0, 0, .inl 0), (19, .getfield 57, 3, 12, 8, 2, .inl 0), (22, .aload_n 0, 1, 0, 0, 0, .inl 0), (23, .getfield 12, 3, 12, 0, 2, .inl 0), (26, .getfield 131, 3, 1, 0, 2, .inl 0), (29, .invokevirtual 315, 3, 6002, 2, 6, .inl 0), (32, .ireturn, 1, 0, 0, 0, .inl 0)])
  | n => (n, [])
theorem ck_12039 : ∀ pc, px_cks pn_i12039 (bk_12039 pc).1 pc (bk_12039 pc).2 = true := by
  intro pc
  unfold bk_12039
  split <;> first | decide +kernel | simp [px_cks]
/-- NoThree.selves()I -/
def bk_12040 : Nat → Nat × List px_E := fun pc => match pc with
  | 0 => (18, [(0, .aload_n 0, 1, 0, 0, 0, .inl 0), (1, .getfield 12, 3, 12, 0, 2, .inl 0), (4, .getfield 131, 3, 1, 0, 2, .inl 0), (7, .getfield 179, 3, 11, 0, 0, .inl 0), (10, .bipush 8, 2, 0, 0, 0, .inl (nI 8)), (12, .if_icmp .le 6, 3, 18, 0, 0, .inl 0), (15, .bipush (-4), 2, 0, 0, 0, .inl (-4)), (17, .ireturn, 1, 0, 0, 0, .inl 0)])
  | 18 => (33, [(18, .aload_n 0, 1, 0, 0, 0, .inl 0), (19, .getfield 57, 3, 12, 8, 2, .inl 0), (22, .aload_n 0, 1, 0, 0, 0, .inl 0), (23, .getfield 12, 3, 12, 0, 2, .inl 0), (26, .getfield 131, 3, 1, 0, 2, .inl 0), (29, .invokevirtual 319, 3, 6006, 2, 6, .inl 0), (32, .ireturn, 1, 0, 0, 0, .inl 0)])
  | n => (n, [])
theorem ck_12040 : ∀ pc, px_cks pn_i12040 (bk_12040 pc).1 pc (bk_12040 pc).2 = true := by
  intro pc
  unfold bk_12040
  split <;> first | decide +kernel | simp [px_cks]
/-- NoThree.alike(I)I -/
def bk_12041 : Nat → Nat × List px_E := fun pc => match pc with
  | 0 => (10, [(0, .iload_n 1, 1, 1, 0, 0, .inl 0), (1, .invokestatic 322, 3, 12056, 1, 0, .inl 0), (4, .ifCond .ne 6, 3, 10, 0, 0, .inl 0), (7, .bipush (-2), 2, 0, 0, 0, .inl (-2)), (9, .ireturn, 1, 0, 0, 0, .inl 0)])
  | 10 => (22, [(10, .aload_n 0, 1, 0, 0, 0, .inl 0), (11, .getfield 22, 3, 12, 3, 2, .inl 0), (14, .iload_n 1, 1, 1, 0, 0, .inl 0), (15, .baload, 1, 0, 0, 0, .inl 0), (16, .ifCond .ne 6, 3, 22, 0, 0, .inl 0), (19, .bipush (-5), 2, 0, 0, 0, .inl (-5)), (21, .ireturn, 1, 0, 0, 0, .inl 0)])
  | 22 => (31, [(22, .aload_n 0, 1, 0, 0, 0, .inl 0), (23, .iload_n 1, 1, 1, 0, 0, .inl 0), (24, .invokevirtual 325, 3, 12057, 2, 12, .inl 0), (27, .getfield 131, 3, 1, 0, 2, .inl 0), (30, .astore_n 2, 1, 2, 0, 0, .inl 0)])
  | 31 => (55, [(31, .aload_n 0, 1, 0, 0, 0, .inl 0), (32, .getfield 12, 3, 12, 0, 2, .inl 0), (35, .getfield 131, 3, 1, 0, 2, .inl 0), (38, .getfield 179, 3, 11, 0, 0, .inl 0), (41, .bipush 8, 2, 0, 0, 0, .inl (nI 8)), (43, .if_icmp .gt 12, 3, 55, 0, 0, .inl 0), (46, .aload_n 2, 1, 2, 0, 0, .inl 0), (47, .getfield 179, 3, 11, 0, 0, .inl 0), (50, .bipush 8, 2, 0, 0, 0, .inl (nI 8)), (52, .if_icmp .le 6, 3, 58, 0, 0, .inl 0)])
  | 55 => (58, [(55, .bipush (-4), 2, 0, 0, 0, .inl (-4)), (57, .ireturn, 1, 0, 0, 0, .inl 0)])
  | 58 => (76, [(58, .aload_n 0, 1, 0, 0, 0, .inl 0), (59, .getfield 57, 3, 12, 8, 2, .inl 0), (62, .aload_n 0, 1, 0, 0, 0, .inl 0), (63, .getfield 12, 3, 12, 0, 2, .inl 0), (66, .getfield 131, 3, 1, 0, 2, .inl 0), (69, .aload_n 2, 1, 2, 0, 0, .inl 0), (70, .invokevirtual 329, 3, 6005, 3, 6, .inl 0), (73, .ifCond .eq 7, 3, 80, 0, 0, .inl 0)])
  | 76 => (80, [(76, .iconst 1, 1, 0, 0, 0, .inl (nI 1)), (77, .goto 4, 3, 81, 0, 0, .inl 0)])
  | 80 => (81, [(80, .iconst 0, 1, 0, 0, 0, .inl (nI 0))])
  | 81 => (82, [(81, .ireturn, 1, 0, 0, 0, .inl 0)])
  | n => (n, [])
theorem ck_12041 : ∀ pc, px_cks pn_i12041 (bk_12041 pc).1 pc (bk_12041 pc).2 = true := by
  intro pc
  unfold bk_12041
  split <;> first | decide +kernel | simp [px_cks]
/-- NoThree.unlike(IZ)I -/
def bk_12042 : Nat → Nat × List px_E := fun pc => match pc with
  | 0 => (20, [(0, .iload_n 1, 1, 1, 0, 0, .inl 0), (1, .ifCond .lt 19, 3, 20, 0, 0, .inl 0), (4, .iload_n 1, 1, 1, 0, 0, .inl 0), (5, .getstatic 333, 3, 0, 0, 0, .inr (.inr (some 2000))), (8, .arraylength, 1, 0, 0, 0, .inl 0), (9, .if_icmp .ge 11, 3, 20, 0, 0, .inl 0), (12, .iload_n 1, 1, 1, 0, 0, .inl 0), (13, .getstatic 336, 3, 0, 0, 0, .inr (.inr (some 2001))), (16, .arraylength, 1, 0, 0, 0, .inl 0), (17, .if_icmp .lt 6, 3, 23, 0, 0, .inl 0)])
  | 20 => (23, [(20, .bipush (-3), 2, 0, 0, 0, .inl (-3)), (22, .ireturn, 1, 0, 0, 0, .inl 0)])
  | 23 => (35, [(23, .iload_n 2, 1, 2, 0, 0, .inl 0), (24, .ifCond .eq 11, 3, 35, 0, 0, .inl 0), (27, .getstatic 336, 3, 0, 0, 0, .inr (.inr (some 2001))), (30, .iload_n 1, 1, 1, 0, 0, .inl 0), (31, .iaload, 1, 0, 0, 0, .inl 0), (32, .goto 8, 3, 40, 0, 0, .inl 0)])
  | 35 => (40, [(35, .getstatic 333, 3, 0, 0, 0, .inr (.inr (some 2000))), (38, .iload_n 1, 1, 1, 0, 0, .inl 0), (39, .iaload, 1, 0, 0, 0, .inl 0)])
  | 40 => (41, [(40, .ireturn, 1, 0, 0, 0, .inl 0)])
  | n => (n, [])
theorem ck_12042 : ∀ pc, px_cks pn_i12042 (bk_12042 pc).1 pc (bk_12042 pc).2 = true := by
  intro pc
  unfold bk_12042
  split <;> first | decide +kernel | simp [px_cks]
/-- NoThree.mostDoors(IZ)I -/
def bk_12043 : Nat → Nat × List px_E := fun pc => match pc with
  | 0 => (20, [(0, .iload_n 1, 1, 1, 0, 0, .inl 0), (1, .ifCond .lt 19, 3, 20, 0, 0, .inl 0), (4, .iload_n 1, 1, 1, 0, 0, .inl 0), (5, .getstatic 339, 3, 0, 0, 0, .inr (.inr (some 2002))), (8, .arraylength, 1, 0, 0, 0, .inl 0), (9, .if_icmp .ge 11, 3, 20, 0, 0, .inl 0), (12, .iload_n 1, 1, 1, 0, 0, .inl 0), (13, .getstatic 342, 3, 0, 0, 0, .inr (.inr (some 2003))), (16, .arraylength, 1, 0, 0, 0, .inl 0), (17, .if_icmp .lt 6, 3, 23, 0, 0, .inl 0)])
  | 20 => (23, [(20, .bipush (-3), 2, 0, 0, 0, .inl (-3)), (22, .ireturn, 1, 0, 0, 0, .inl 0)])
  | 23 => (35, [(23, .iload_n 2, 1, 2, 0, 0, .inl 0), (24, .ifCond .eq 11, 3, 35, 0, 0, .inl 0), (27, .getstatic 342, 3, 0, 0, 0, .inr (.inr (some 2003))), (30, .iload_n 1, 1, 1, 0, 0, .inl 0), (31, .iaload, 1, 0, 0, 0, .inl 0), (32, .goto 8, 3, 40, 0, 0, .inl 0)])
  | 35 => (40, [(35, .getstatic 339, 3, 0, 0, 0, .inr (.inr (some 2002))), (38, .iload_n 1, 1, 1, 0, 0, .inl 0), (39, .iaload, 1, 0, 0, 0, .inl 0)])
  | 40 => (41, [(40, .ireturn, 1, 0, 0, 0, .inl 0)])
  | n => (n, [])
theorem ck_12043 : ∀ pc, px_cks pn_i12043 (bk_12043 pc).1 pc (bk_12043 pc).2 = true := by
  intro pc
  unfold bk_12043
  split <;> first | decide +kernel | simp [px_cks]
/-- NoThree.cure(I)I -/
def bk_12044 : Nat → Nat × List px_E := fun pc => match pc with
  | 0 => (16, [(0, .iload_n 1, 1, 1, 0, 0, .inl 0), (1, .ifCond .eq 18, 3, 19, 0, 0, .inl 0), (4, .iload_n 1, 1, 1, 0, 0, .inl 0), (5, .bipush 10, 2, 0, 0, 0, .inl (nI 10)), (7, .if_icmp .lt 9, 3, 16, 0, 0, .inl 0), (10, .iload_n 1, 1, 1, 0, 0, .inl 0), (11, .bipush 16, 2, 0, 0, 0, .inl (nI 16)), (13, .if_icmp .lt 6, 3, 19, 0, 0, .inl 0)])
  | 16 => (19, [(16, .bipush (-2), 2, 0, 0, 0, .inl (-2)), (18, .ireturn, 1, 0, 0, 0, .inl 0)])
  | 19 => (43, [(19, .aload_n 0, 1, 0, 0, 0, .inl 0), (20, .getfield 64, 3, 12, 9, 2, .inl 0), (23, .aload_n 0, 1, 0, 0, 0, .inl 0), (24, .getfield 12, 3, 12, 0, 2, .inl 0), (27, .getfield 131, 3, 1, 0, 2, .inl 0), (30, .invokevirtual 345, 3, 5002, 2, 5, .inl 0), (33, .istore_n 2, 1, 2, 0, 0, .inl 0), (34, .iload_n 2, 1, 2, 0, 0, .inl 0), (35, .bipush 6, 2, 0, 0, 0, .inl (nI 6)), (37, .if_icmp .le 6, 3, 43, 0, 0, .inl 0), (40, .bipush (-4), 2, 0, 0, 0, .inl (-4)), (42, .ireturn, 1, 0, 0, 0, .inl 0)])
  | 43 => (47, [(43, .iload_n 1, 1, 1, 0, 0, .inl 0), (44, .ifCond .ne 7, 3, 51, 0, 0, .inl 0)])
  | 47 => (51, [(47, .iload_n 2, 1, 2, 0, 0, .inl 0), (48, .goto 14, 3, 62, 0, 0, .inl 0)])
  | 51 => (62, [(51, .aload_n 0, 1, 0, 0, 0, .inl 0), (52, .getfield 64, 3, 12, 9, 2, .inl 0), (55, .iload_n 1, 1, 1, 0, 0, .inl 0), (56, .bipush 10, 2, 0, 0, 0, .inl (nI 10)), (58, .isub, 1, 0, 0, 0, .inl 0), (59, .invokevirtual 348, 3, 5006, 2, 5, .inl 0)])
  | 62 => (63, [(62, .ireturn, 1, 0, 0, 0, .inl 0)])
  | n => (n, [])
theorem ck_12044 : ∀ pc, px_cks pn_i12044 (bk_12044 pc).1 pc (bk_12044 pc).2 = true := by
  intro pc
  unfold bk_12044
  split <;> first | decide +kernel | simp [px_cks]
/-- NoThree.pay(II)I -/
def bk_12045 : Nat → Nat × List px_E := fun pc => match pc with
  | 0 => (17, [(0, .aload_n 0, 1, 0, 0, 0, .inl 0), (1, .getfield 12, 3, 12, 0, 2, .inl 0), (4, .getfield 131, 3, 1, 0, 2, .inl 0), (7, .iload_n 1, 1, 1, 0, 0, .inl 0), (8, .invokevirtual 134, 3, 11002, 2, 11, .inl 0), (11, .ifCond .ne 6, 3, 17, 0, 0, .inl 0), (14, .bipush (-2), 2, 0, 0, 0, .inl (-2)), (16, .ireturn, 1, 0, 0, 0, .inl 0)])
  | 17 => (24, [(17, .iload_n 2, 1, 2, 0, 0, .inl 0), (18, .invokestatic 351, 3, 12058, 1, 0, .inl 0), (21, .ifCond .ne 6, 3, 27, 0, 0, .inl 0)])
  | 24 => (27, [(24, .bipush (-3), 2, 0, 0, 0, .inl (-3)), (26, .ireturn, 1, 0, 0, 0, .inl 0)])
  | 27 => (57, [(27, .aload_n 0, 1, 0, 0, 0, .inl 0), (28, .getfield 78, 3, 12, 11, 2, .inl 0), (31, .aload_n 0, 1, 0, 0, 0, .inl 0), (32, .getfield 12, 3, 12, 0, 2, .inl 0), (35, .getfield 131, 3, 1, 0, 2, .inl 0), (38, .iload_n 1, 1, 1, 0, 0, .inl 0), (39, .invokevirtual 354, 3, 7003, 3, 7, .inl 0), (42, .iload_n 2, 1, 2, 0, 0, .inl 0), (43, .aload_n 0, 1, 0, 0, 0, .inl 0), (44, .getfield 12, 3, 12, 0, 2, .inl 0), (47, .getfield 131, 3, 1, 0, 2, .inl 0), (50, .iload_n 1, 1, 1, 0, 0, .inl 0), (51, .invokevirtual 137, 3, 11014, 2, 11, .inl 0), (54, .imul, 1, 0, 0, 0, .inl 0), (55, .isub, 1, 0, 0, 0, .inl 0), (56, .ireturn, 1, 0, 0, 0, .inl 0)])
  | n => (n, [])
theorem ck_12045 : ∀ pc, px_cks pn_i12045 (bk_12045 pc).1 pc (bk_12045 pc).2 = true := by
  intro pc
  unfold bk_12045
  split <;> first | decide +kernel | simp [px_cks]
/-- NoThree.atRest(I)I -/
def bk_12046 : Nat → Nat × List px_E := fun pc => match pc with
  | 0 => (10, [(0, .iload_n 1, 1, 1, 0, 0, .inl 0), (1, .invokestatic 351, 3, 12058, 1, 0, .inl 0), (4, .ifCond .ne 6, 3, 10, 0, 0, .inl 0), (7, .bipush (-3), 2, 0, 0, 0, .inl (-3)), (9, .ireturn, 1, 0, 0, 0, .inl 0)])
  | 10 => (24, [(10, .aload_n 0, 1, 0, 0, 0, .inl 0), (11, .getfield 78, 3, 12, 11, 2, .inl 0), (14, .aload_n 0, 1, 0, 0, 0, .inl 0), (15, .getfield 12, 3, 12, 0, 2, .inl 0), (18, .getfield 131, 3, 1, 0, 2, .inl 0), (21, .invokevirtual 357, 3, 7002, 2, 7, .inl 0)])
  | 24 => (47, [(24, .aload_n 0, 1, 0, 0, 0, .inl 0), (25, .getfield 78, 3, 12, 11, 2, .inl 0), (28, .aload_n 0, 1, 0, 0, 0, .inl 0), (29, .getfield 12, 3, 12, 0, 2, .inl 0), (32, .getfield 163, 3, 1, 1, 2, .inl 0), (35, .aload_n 0, 1, 0, 0, 0, .inl 0), (36, .getfield 71, 3, 12, 10, 2, .inl 0), (39, .iload_n 1, 1, 1, 0, 0, .inl 0), (40, .invokevirtual 360, 3, 7004, 4, 7, .inl 0), (43, .iconst (-1), 1, 0, 0, 0, .inl (-1)), (44, .if_icmp .ne 7, 3, 51, 0, 0, .inl 0)])
  | 47 => (51, [(47, .iconst 1, 1, 0, 0, 0, .inl (nI 1)), (48, .goto 4, 3, 52, 0, 0, .inl 0)])
  | 51 => (52, [(51, .iconst 0, 1, 0, 0, 0, .inl (nI 0))])
  | 52 => (53, [(52, .ireturn, 1, 0, 0, 0, .inl 0)])
  | n => (n, [])
theorem ck_12046 : ∀ pc, px_cks pn_i12046 (bk_12046 pc).1 pc (bk_12046 pc).2 = true := by
  intro pc
  unfold bk_12046
  split <;> first | decide +kernel | simp [px_cks]
/-- NoThree.changing(II)I -/
def bk_12047 : Nat → Nat × List px_E := fun pc => match pc with
  | 0 => (9, [(0, .iload_n 2, 1, 2, 0, 0, .inl 0), (1, .ifCond .lt 8, 3, 9, 0, 0, .inl 0), (4, .iload_n 2, 1, 2, 0, 0, .inl 0), (5, .iconst 2, 1, 0, 0, 0, .inl (nI 2)), (6, .if_icmp .le 6, 3, 12, 0, 0, .inl 0)])
  | 9 => (12, [(9, .bipush (-2), 2, 0, 0, 0, .inl (-2)), (11, .ireturn, 1, 0, 0, 0, .inl 0)])
  | 12 => (22, [(12, .iload_n 1, 1, 1, 0, 0, .inl 0), (13, .invokestatic 351, 3, 12058, 1, 0, .inl 0), (16, .ifCond .ne 6, 3, 22, 0, 0, .inl 0), (19, .bipush (-3), 2, 0, 0, 0, .inl (-3)), (21, .ireturn, 1, 0, 0, 0, .inl 0)])
  | 22 => (36, [(22, .aload_n 0, 1, 0, 0, 0, .inl 0), (23, .getfield 78, 3, 12, 11, 2, .inl 0), (26, .aload_n 0, 1, 0, 0, 0, .inl 0), (27, .getfield 12, 3, 12, 0, 2, .inl 0), (30, .getfield 131, 3, 1, 0, 2, .inl 0), (33, .invokevirtual 357, 3, 7002, 2, 7, .inl 0)])
  | 36 => (59, [(36, .iconst 0, 1, 0, 0, 0, .inl (nI 0)), (37, .istore_n 3, 1, 3, 0, 0, .inl 0), (38, .aload_n 0, 1, 0, 0, 0, .inl 0), (39, .getfield 78, 3, 12, 11, 2, .inl 0), (42, .aload_n 0, 1, 0, 0, 0, .inl 0), (43, .getfield 12, 3, 12, 0, 2, .inl 0), (46, .getfield 163, 3, 1, 1, 2, .inl 0), (49, .aload_n 0, 1, 0, 0, 0, .inl 0), (50, .getfield 71, 3, 12, 10, 2, .inl 0), (53, .iload_n 1, 1, 1, 0, 0, .inl 0), (54, .invokevirtual 360, 3, 7004, 4, 7, .inl 0), (57, .istore 4, 2, 4, 0, 0, .inl 0)])
  | 59 => (62, [(59, .iconst 0, 1, 0, 0, 0, .inl (nI 0)), (60, .istore 5, 2, 5, 0, 0, .inl 0)])
  | 62 => (88, [(62, .iload 5, 2, 5, 0, 0, .inl 0), (64, .bipush 60, 2, 0, 0, 0, .inl (nI 60)), (66, .if_icmp .ge 52, 3, 118, 0, 0, .inl 0), (69, .iload 4, 2, 4, 0, 0, .inl 0), (71, .iconst (-1), 1, 0, 0, 0, .inl (-1)), (72, .if_icmp .eq 46, 3, 118, 0, 0, .inl 0), (75, .aload_n 0, 1, 0, 0, 0, .inl 0), (76, .getfield 78, 3, 12, 11, 2, .inl 0), (79, .getfield 364, 3, 7, 0, 2, .inl 0), (82, .iload 4, 2, 4, 0, 0, .inl 0), (84, .i2l, 1, 0, 0, 0, .inl 0), (85, .invokestatic 238, 3, 12065, 2, 0, .inl 0)])
  | 88 => (112, [(88, .iinc 3 1, 3, 3, 0, 0, .inl (nI 1)), (91, .aload_n 0, 1, 0, 0, 0, .inl 0), (92, .getfield 78, 3, 12, 11, 2, .inl 0), (95, .aload_n 0, 1, 0, 0, 0, .inl 0), (96, .getfield 12, 3, 12, 0, 2, .inl 0), (99, .getfield 163, 3, 1, 1, 2, .inl 0), (102, .aload_n 0, 1, 0, 0, 0, .inl 0), (103, .getfield 71, 3, 12, 10, 2, .inl 0), (106, .iload_n 1, 1, 1, 0, 0, .inl 0), (107, .invokevirtual 360, 3, 7004, 4, 7, .inl 0), (110, .istore 4, 2, 4, 0, 0, .inl 0)])
  | 112 => (118, [(112, .iinc 5 1, 3, 5, 0, 0, .inl (nI 1)), (115, .goto (-53), 3, 62, 0, 0, .inl 0)])
  | 118 => (144, [(118, .iload_n 2, 1, 2, 0, 0, .inl 0), (119, .lookupswitch 38 #[(0, 25), (1, 27)], 25, 10, 0, 0, .inl 0)])
  | 144 => (146, [(144, .iload_n 3, 1, 3, 0, 0, .inl 0), (145, .ireturn, 1, 0, 0, 0, .inl 0)])
  | 146 => (157, [(146, .aload_n 0, 1, 0, 0, 0, .inl 0), (147, .getfield 78, 3, 12, 11, 2, .inl 0), (150, .getfield 364, 3, 7, 0, 2, .inl 0), (153, .invokevirtual 197, 3, 11015, 1, 11, .inl 0), (156, .ireturn, 1, 0, 0, 0, .inl 0)])
  | 157 => (167, [(157, .iload 4, 2, 4, 0, 0, .inl 0), (159, .iconst (-1), 1, 0, 0, 0, .inl (-1)), (160, .if_icmp .ne 7, 3, 167, 0, 0, .inl 0), (163, .iconst 1, 1, 0, 0, 0, .inl (nI 1)), (164, .goto 4, 3, 168, 0, 0, .inl 0)])
  | 167 => (168, [(167, .iconst 0, 1, 0, 0, 0, .inl (nI 0))])
  | 168 => (169, [(168, .ireturn, 1, 0, 0, 0, .inl 0)])
  | n => (n, [])
theorem ck_12047 : ∀ pc, px_cks pn_i12047 (bk_12047 pc).1 pc (bk_12047 pc).2 = true := by
  intro pc
  unfold bk_12047
  split <;> first | decide +kernel | simp [px_cks]
/-- NoThree.dearness()I -/
def bk_12048 : Nat → Nat × List px_E := fun pc => match pc with
  | 0 => (33, [(0, .aload_n 0, 1, 0, 0, 0, .inl 0), (1, .getfield 78, 3, 12, 11, 2, .inl 0), (4, .aload_n 0, 1, 0, 0, 0, .inl 0), (5, .getfield 12, 3, 12, 0, 2, .inl 0), (8, .getfield 131, 3, 1, 0, 2, .inl 0), (11, .invokevirtual 357, 3, 7002, 2, 7, .inl 0), (14, .aload_n 0, 1, 0, 0, 0, .inl 0), (15, .getfield 78, 3, 12, 11, 2, .inl 0), (18, .aload_n 0, 1, 0, 0, 0, .inl 0), (19, .getfield 12, 3, 12, 0, 2, .inl 0), (22, .getfield 163, 3, 1, 1, 2, .inl 0), (25, .aload_n 0, 1, 0, 0, 0, .inl 0), (26, .getfield 71, 3, 12, 10, 2, .inl 0), (29, .invokevirtual 367, 3, 7005, 3, 7, .inl 0), (32, .ireturn, 1, 0, 0, 0, .inl 0)])
  | n => (n, [])
theorem ck_12048 : ∀ pc, px_cks pn_i12048 (bk_12048 pc).1 pc (bk_12048 pc).2 = true := by
  intro pc
  unfold bk_12048
  split <;> first | decide +kernel | simp [px_cks]
/-- NoThree.numbers(III)I -/
def bk_12049 : Nat → Nat × List px_E := fun pc => match pc with
  | 0 => (16, [(0, .iload_n 1, 1, 1, 0, 0, .inl 0), (1, .invokestatic 225, 3, 12055, 1, 0, .inl 0), (4, .ifCond .eq 12, 3, 16, 0, 0, .inl 0), (7, .iload_n 2, 1, 2, 0, 0, .inl 0), (8, .ifCond .lt 8, 3, 16, 0, 0, .inl 0), (11, .iload_n 2, 1, 2, 0, 0, .inl 0), (12, .iconst 4, 1, 0, 0, 0, .inl (nI 4)), (13, .if_icmp .lt 6, 3, 19, 0, 0, .inl 0)])
  | 16 => (19, [(16, .bipush (-2), 2, 0, 0, 0, .inl (-2)), (18, .ireturn, 1, 0, 0, 0, .inl 0)])
  | 19 => (29, [(19, .iload_n 3, 1, 3, 0, 0, .inl 0), (20, .ifCond .lt 9, 3, 29, 0, 0, .inl 0), (23, .iload_n 3, 1, 3, 0, 0, .inl 0), (24, .bipush 40, 2, 0, 0, 0, .inl (nI 40)), (26, .if_icmp .le 6, 3, 32, 0, 0, .inl 0)])
  | 29 => (32, [(29, .bipush (-3), 2, 0, 0, 0, .inl (-3)), (31, .ireturn, 1, 0, 0, 0, .inl 0)])
  | 32 => (49, [(32, .aload_n 0, 1, 0, 0, 0, .inl 0), (33, .getfield 93, 3, 12, 14, 2, .inl 0), (36, .iload_n 1, 1, 1, 0, 0, .inl 0), (37, .iload_n 2, 1, 2, 0, 0, .inl 0), (38, .iastore, 1, 0, 0, 0, .inl 0), (39, .aload_n 0, 1, 0, 0, 0, .inl 0), (40, .getfield 97, 3, 12, 15, 2, .inl 0), (43, .iload_n 1, 1, 1, 0, 0, .inl 0), (44, .iload_n 3, 1, 3, 0, 0, .inl 0), (45, .iastore, 1, 0, 0, 0, .inl 0), (46, .iconst 0, 1, 0, 0, 0, .inl (nI 0)), (47, .istore 4, 2, 4, 0, 0, .inl 0)])
  | 49 => (74, [(49, .iload 4, 2, 4, 0, 0, .inl 0), (51, .iload_n 3, 1, 3, 0, 0, .inl 0), (52, .if_icmp .ge 22, 3, 74, 0, 0, .inl 0), (55, .aload_n 0, 1, 0, 0, 0, .inl 0), (56, .getfield 89, 3, 12, 13, 2, .inl 0), (59, .iload_n 1, 1, 1, 0, 0, .inl 0), (60, .bipush 40, 2, 0, 0, 0, .inl (nI 40)), (62, .imul, 1, 0, 0, 0, .inl 0), (63, .iload 4, 2, 4, 0, 0, .inl 0), (65, .iadd, 1, 0, 0, 0, .inl 0), (66, .lconst 0, 1, 0, 0, 0, .inr (.inl (lN 0))), (67, .lastore, 1, 0, 0, 0, .inl 0), (68, .iinc 4 1, 3, 4, 0, 0, .inl (nI 1)), (71, .goto (-22), 3, 49, 0, 0, .inl 0)])
  | 74 => (76, [(74, .iconst 0, 1, 0, 0, 0, .inl (nI 0)), (75, .ireturn, 1, 0, 0, 0, .inl 0)])
  | n => (n, [])
theorem ck_12049 : ∀ pc, px_cks pn_i12049 (bk_12049 pc).1 pc (bk_12049 pc).2 = true := by
  intro pc
  unfold bk_12049
  split <;> first | decide +kernel | simp [px_cks]
/-- NoThree.write(IIJ)J -/
def bk_12050 : Nat → Nat × List px_E := fun pc => match pc with
  | 0 => (11, [(0, .iload_n 1, 1, 1, 0, 0, .inl 0), (1, .invokestatic 225, 3, 12055, 1, 0, .inl 0), (4, .ifCond .ne 7, 3, 11, 0, 0, .inl 0), (7, .ldc2_w 371, 3, 0, 0, 0, .inr (.inl (-2))), (10, .lreturn, 1, 0, 0, 0, .inl 0)])
  | 11 => (24, [(11, .aload_n 0, 1, 0, 0, 0, .inl 0), (12, .getfield 97, 3, 12, 15, 2, .inl 0), (15, .iload_n 1, 1, 1, 0, 0, .inl 0), (16, .iaload, 1, 0, 0, 0, .inl 0), (17, .ifCond .ge 7, 3, 24, 0, 0, .inl 0), (20, .ldc2_w 373, 3, 0, 0, 0, .inr (.inl (-6))), (23, .lreturn, 1, 0, 0, 0, .inl 0)])
  | 24 => (38, [(24, .iload_n 2, 1, 2, 0, 0, .inl 0), (25, .ifCond .lt 13, 3, 38, 0, 0, .inl 0), (28, .iload_n 2, 1, 2, 0, 0, .inl 0), (29, .aload_n 0, 1, 0, 0, 0, .inl 0), (30, .getfield 97, 3, 12, 15, 2, .inl 0), (33, .iload_n 1, 1, 1, 0, 0, .inl 0), (34, .iaload, 1, 0, 0, 0, .inl 0), (35, .if_icmp .lt 7, 3, 42, 0, 0, .inl 0)])
  | 38 => (42, [(38, .ldc2_w 375, 3, 0, 0, 0, .inr (.inl (-7))), (41, .lreturn, 1, 0, 0, 0, .inl 0)])
  | 42 => (49, [(42, .aload_n 0, 1, 0, 0, 0, .inl 0), (43, .iload_n 1, 1, 1, 0, 0, .inl 0), (44, .iload_n 2, 1, 2, 0, 0, .inl 0), (45, .lload_n 3, 1, 3, 0, 0, .inl 0), (46, .invokevirtual 377, 3, 12067, 4, 12, .inl 0)])
  | 49 => (56, [(49, .aload_n 0, 1, 0, 0, 0, .inl 0), (50, .iload_n 1, 1, 1, 0, 0, .inl 0), (51, .iload_n 2, 1, 2, 0, 0, .inl 0), (52, .invokevirtual 230, 3, 12066, 3, 12, .inl 0), (55, .lreturn, 1, 0, 0, 0, .inl 0)])
  | n => (n, [])
theorem ck_12050 : ∀ pc, px_cks pn_i12050 (bk_12050 pc).1 pc (bk_12050 pc).2 = true := by
  intro pc
  unfold bk_12050
  split <;> first | decide +kernel | simp [px_cks]
/-- NoThree.copy(I)I -/
def bk_12051 : Nat → Nat × List px_E := fun pc => match pc with
  | 0 => (10, [(0, .iload_n 1, 1, 1, 0, 0, .inl 0), (1, .invokestatic 225, 3, 12055, 1, 0, .inl 0), (4, .ifCond .ne 6, 3, 10, 0, 0, .inl 0), (7, .bipush (-2), 2, 0, 0, 0, .inl (-2)), (9, .ireturn, 1, 0, 0, 0, .inl 0)])
  | 10 => (22, [(10, .aload_n 0, 1, 0, 0, 0, .inl 0), (11, .getfield 97, 3, 12, 15, 2, .inl 0), (14, .iload_n 1, 1, 1, 0, 0, .inl 0), (15, .iaload, 1, 0, 0, 0, .inl 0), (16, .ifCond .ge 6, 3, 22, 0, 0, .inl 0), (19, .bipush (-6), 2, 0, 0, 0, .inl (-6)), (21, .ireturn, 1, 0, 0, 0, .inl 0)])
  | 22 => (26, [(22, .iconst 0, 1, 0, 0, 0, .inl (nI 0)), (23, .istore_n 2, 1, 2, 0, 0, .inl 0), (24, .iconst 0, 1, 0, 0, 0, .inl (nI 0)), (25, .istore_n 3, 1, 3, 0, 0, .inl 0)])
  | 26 => (45, [(26, .iload_n 3, 1, 3, 0, 0, .inl 0), (27, .aload_n 0, 1, 0, 0, 0, .inl 0), (28, .getfield 12, 3, 12, 0, 2, .inl 0), (31, .getfield 131, 3, 1, 0, 2, .inl 0), (34, .getfield 179, 3, 11, 0, 0, .inl 0), (37, .if_icmp .ge 80, 3, 117, 0, 0, .inl 0), (40, .iload_n 3, 1, 3, 0, 0, .inl 0), (41, .iconst 1, 1, 0, 0, 0, .inl (nI 1)), (42, .iadd, 1, 0, 0, 0, .inl 0), (43, .istore 4, 2, 4, 0, 0, .inl 0)])
  | 45 => (86, [(45, .iload 4, 2, 4, 0, 0, .inl 0), (47, .aload_n 0, 1, 0, 0, 0, .inl 0), (48, .getfield 12, 3, 12, 0, 2, .inl 0), (51, .getfield 131, 3, 1, 0, 2, .inl 0), (54, .getfield 179, 3, 11, 0, 0, .inl 0), (57, .if_icmp .ge 54, 3, 111, 0, 0, .inl 0), (60, .iload_n 2, 1, 2, 0, 0, .inl 0), (61, .aload_n 0, 1, 0, 0, 0, .inl 0), (62, .getfield 97, 3, 12, 15, 2, .inl 0), (65, .iload_n 1, 1, 1, 0, 0, .inl 0), (66, .iaload, 1, 0, 0, 0, .inl 0), (67, .if_icmp .ge 38, 3, 105, 0, 0, .inl 0), (70, .aload_n 0, 1, 0, 0, 0, .inl 0), (71, .getfield 12, 3, 12, 0, 2, .inl 0), (74, .getfield 131, 3, 1, 0, 2, .inl 0), (77, .iload_n 3, 1, 3, 0, 0, .inl 0), (78, .iload 4, 2, 4, 0, 0, .inl 0), (80, .invokevirtual 381, 3, 11006, 3, 11, .inl 0), (83, .ifCond .eq 22, 3, 105, 0, 0, .inl 0)])
  | 86 => (105, [(86, .aload_n 0, 1, 0, 0, 0, .inl 0), (87, .iload_n 1, 1, 1, 0, 0, .inl 0), (88, .iload_n 2, 1, 2, 0, 0, .inl 0), (89, .ldc2_w 385, 3, 0, 0, 0, .inr (.inl (lN 100))), (92, .iload_n 3, 1, 3, 0, 0, .inl 0), (93, .i2l, 1, 0, 0, 0, .inl 0), (94, .lmul, 1, 0, 0, 0, .inl 0), (95, .iload 4, 2, 4, 0, 0, .inl 0), (97, .i2l, 1, 0, 0, 0, .inl 0), (98, .ladd, 1, 0, 0, 0, .inl 0), (99, .invokevirtual 377, 3, 12067, 4, 12, .inl 0), (102, .iinc 2 1, 3, 2, 0, 0, .inl (nI 1))])
  | 105 => (111, [(105, .iinc 4 1, 3, 4, 0, 0, .inl (nI 1)), (108, .goto (-63), 3, 45, 0, 0, .inl 0)])
  | 111 => (117, [(111, .iinc 3 1, 3, 3, 0, 0, .inl (nI 1)), (114, .goto (-88), 3, 26, 0, 0, .inl 0)])
  | 117 => (119, [(117, .iload_n 2, 1, 2, 0, 0, .inl 0), (118, .ireturn, 1, 0, 0, 0, .inl 0)])
  | n => (n, [])
theorem ck_12051 : ∀ pc, px_cks pn_i12051 (bk_12051 pc).1 pc (bk_12051 pc).2 = true := by
  intro pc
  unfold bk_12051
  split <;> first | decide +kernel | simp [px_cks]
/-- NoThree.image(I)I -/
def bk_12052 : Nat → Nat × List px_E := fun pc => match pc with
  | 0 => (10, [(0, .iload_n 1, 1, 1, 0, 0, .inl 0), (1, .invokestatic 322, 3, 12056, 1, 0, .inl 0), (4, .ifCond .ne 6, 3, 10, 0, 0, .inl 0), (7, .bipush (-2), 2, 0, 0, 0, .inl (-2)), (9, .ireturn, 1, 0, 0, 0, .inl 0)])
  | 10 => (31, [(10, .aload_n 0, 1, 0, 0, 0, .inl 0), (11, .iload_n 1, 1, 1, 0, 0, .inl 0), (12, .invokevirtual 325, 3, 12057, 2, 12, .inl 0), (15, .aload_n 0, 1, 0, 0, 0, .inl 0), (16, .getfield 12, 3, 12, 0, 2, .inl 0), (19, .invokevirtual 121, 3, 1002, 2, 1, .inl 0), (22, .aload_n 0, 1, 0, 0, 0, .inl 0), (23, .getfield 22, 3, 12, 3, 2, .inl 0), (26, .iload_n 1, 1, 1, 0, 0, .inl 0), (27, .iconst 1, 1, 0, 0, 0, .inl (nI 1)), (28, .bastore, 1, 0, 0, 0, .inl 0), (29, .iconst 0, 1, 0, 0, 0, .inl (nI 0)), (30, .ireturn, 1, 0, 0, 0, .inl 0)])
  | n => (n, [])
theorem ck_12052 : ∀ pc, px_cks pn_i12052 (bk_12052 pc).1 pc (bk_12052 pc).2 = true := by
  intro pc
  unfold bk_12052
  split <;> first | decide +kernel | simp [px_cks]
/-- NoThree.restore(I)I -/
def bk_12053 : Nat → Nat × List px_E := fun pc => match pc with
  | 0 => (10, [(0, .iload_n 1, 1, 1, 0, 0, .inl 0), (1, .invokestatic 322, 3, 12056, 1, 0, .inl 0), (4, .ifCond .ne 6, 3, 10, 0, 0, .inl 0), (7, .bipush (-2), 2, 0, 0, 0, .inl (-2)), (9, .ireturn, 1, 0, 0, 0, .inl 0)])
  | 10 => (22, [(10, .aload_n 0, 1, 0, 0, 0, .inl 0), (11, .getfield 22, 3, 12, 3, 2, .inl 0), (14, .iload_n 1, 1, 1, 0, 0, .inl 0), (15, .baload, 1, 0, 0, 0, .inl 0), (16, .ifCond .ne 6, 3, 22, 0, 0, .inl 0), (19, .bipush (-5), 2, 0, 0, 0, .inl (-5)), (21, .ireturn, 1, 0, 0, 0, .inl 0)])
  | 22 => (36, [(22, .aload_n 0, 1, 0, 0, 0, .inl 0), (23, .getfield 12, 3, 12, 0, 2, .inl 0), (26, .aload_n 0, 1, 0, 0, 0, .inl 0), (27, .iload_n 1, 1, 1, 0, 0, .inl 0), (28, .invokevirtual 325, 3, 12057, 2, 12, .inl 0), (31, .invokevirtual 121, 3, 1002, 2, 1, .inl 0), (34, .iconst 0, 1, 0, 0, 0, .inl (nI 0)), (35, .ireturn, 1, 0, 0, 0, .inl 0)])
  | n => (n, [])
theorem ck_12053 : ∀ pc, px_cks pn_i12053 (bk_12053 pc).1 pc (bk_12053 pc).2 = true := by
  intro pc
  unfold bk_12053
  split <;> first | decide +kernel | simp [px_cks]
/-- NoThree.count(I)I -/
def bk_12054 : Nat → Nat × List px_E := fun pc => match pc with
  | 0 => (48, [(0, .iload_n 1, 1, 1, 0, 0, .inl 0), (1, .tableswitch 126 0 7 #[47, 58, 69, 80, 88, 99, 110, 118], 47, 11, 0, 0, .inl 0)])
  | 48 => (59, [(48, .aload_n 0, 1, 0, 0, 0, .inl 0), (49, .getfield 12, 3, 12, 0, 2, .inl 0), (52, .getfield 131, 3, 1, 0, 2, .inl 0), (55, .getfield 179, 3, 11, 0, 0, .inl 0), (58, .ireturn, 1, 0, 0, 0, .inl 0)])
  | 59 => (70, [(59, .aload_n 0, 1, 0, 0, 0, .inl 0), (60, .getfield 12, 3, 12, 0, 2, .inl 0), (63, .getfield 131, 3, 1, 0, 2, .inl 0), (66, .invokevirtual 197, 3, 11015, 1, 11, .inl 0), (69, .ireturn, 1, 0, 0, 0, .inl 0)])
  | 70 => (81, [(70, .aload_n 0, 1, 0, 0, 0, .inl 0), (71, .getfield 12, 3, 12, 0, 2, .inl 0), (74, .getfield 163, 3, 1, 1, 2, .inl 0), (77, .getfield 167, 3, 10, 0, 0, .inl 0), (80, .ireturn, 1, 0, 0, 0, .inl 0)])
  | 81 => (89, [(81, .aload_n 0, 1, 0, 0, 0, .inl 0), (82, .getfield 12, 3, 12, 0, 2, .inl 0), (85, .getfield 219, 3, 1, 3, 0, .inl 0), (88, .ireturn, 1, 0, 0, 0, .inl 0)])
  | 89 => (100, [(89, .aload_n 0, 1, 0, 0, 0, .inl 0), (90, .getfield 12, 3, 12, 0, 2, .inl 0), (93, .getfield 131, 3, 1, 0, 2, .inl 0), (96, .invokevirtual 242, 3, 11023, 1, 11, .inl 0), (99, .ireturn, 1, 0, 0, 0, .inl 0)])
  | 100 => (111, [(100, .aload_n 0, 1, 0, 0, 0, .inl 0), (101, .getfield 12, 3, 12, 0, 2, .inl 0), (104, .getfield 131, 3, 1, 0, 2, .inl 0), (107, .invokevirtual 387, 3, 11021, 1, 11, .inl 0), (110, .ireturn, 1, 0, 0, 0, .inl 0)])
  | 111 => (119, [(111, .aload_n 0, 1, 0, 0, 0, .inl 0), (112, .getfield 29, 3, 12, 4, 2, .inl 0), (115, .getfield 108, 3, 9, 0, 0, .inl 0), (118, .ireturn, 1, 0, 0, 0, .inl 0)])
  | 119 => (127, [(119, .aload_n 0, 1, 0, 0, 0, .inl 0), (120, .getfield 12, 3, 12, 0, 2, .inl 0), (123, .getfield 125, 3, 1, 2, 0, .inl 0), (126, .ireturn, 1, 0, 0, 0, .inl 0)])
  | 127 => (129, [(127, .iconst (-1), 1, 0, 0, 0, .inl (-1)), (128, .ireturn, 1, 0, 0, 0, .inl 0)])
  | n => (n, [])
theorem ck_12054 : ∀ pc, px_cks pn_i12054 (bk_12054 pc).1 pc (bk_12054 pc).2 = true := by
  intro pc
  unfold bk_12054
  split <;> first | decide +kernel | simp [px_cks]
/-- NoThree.isRow(I)Z -/
def bk_12055 : Nat → Nat × List px_E := fun pc => match pc with
  | 0 => (13, [(0, .iload_n 0, 1, 0, 0, 0, .inl 0), (1, .ifCond .lt 12, 3, 13, 0, 0, .inl 0), (4, .iload_n 0, 1, 0, 0, 0, .inl 0), (5, .iconst 4, 1, 0, 0, 0, .inl (nI 4)), (6, .if_icmp .ge 7, 3, 13, 0, 0, .inl 0), (9, .iconst 1, 1, 0, 0, 0, .inl (nI 1)), (10, .goto 4, 3, 14, 0, 0, .inl 0)])
  | 13 => (14, [(13, .iconst 0, 1, 0, 0, 0, .inl (nI 0))])
  | 14 => (15, [(14, .ireturn, 1, 0, 0, 0, .inl 0)])
  | n => (n, [])
theorem ck_12055 : ∀ pc, px_cks pn_i12055 (bk_12055 pc).1 pc (bk_12055 pc).2 = true := by
  intro pc
  unfold bk_12055
  split <;> first | decide +kernel | simp [px_cks]
/-- NoThree.isImage(I)Z -/
def bk_12056 : Nat → Nat × List px_E := fun pc => match pc with
  | 0 => (13, [(0, .iload_n 0, 1, 0, 0, 0, .inl 0), (1, .ifCond .lt 12, 3, 13, 0, 0, .inl 0), (4, .iload_n 0, 1, 0, 0, 0, .inl 0), (5, .iconst 2, 1, 0, 0, 0, .inl (nI 2)), (6, .if_icmp .ge 7, 3, 13, 0, 0, .inl 0), (9, .iconst 1, 1, 0, 0, 0, .inl (nI 1)), (10, .goto 4, 3, 14, 0, 0, .inl 0)])
  | 13 => (14, [(13, .iconst 0, 1, 0, 0, 0, .inl (nI 0))])
  | 14 => (15, [(14, .ireturn, 1, 0, 0, 0, .inl 0)])
  | n => (n, [])
theorem ck_12056 : ∀ pc, px_cks pn_i12056 (bk_12056 pc).1 pc (bk_12056 pc).2 = true := by
  intro pc
  unfold bk_12056
  split <;> first | decide +kernel | simp [px_cks]
/-- NoThree.imageAt(I)LNoThree$Annals; -/
def bk_12057 : Nat → Nat × List px_E := fun pc => match pc with
  | 0 => (11, [(0, .iload_n 1, 1, 1, 0, 0, .inl 0), (1, .ifCond .ne 10, 3, 11, 0, 0, .inl 0), (4, .aload_n 0, 1, 0, 0, 0, .inl 0), (5, .getfield 16, 3, 12, 1, 2, .inl 0), (8, .goto 7, 3, 15, 0, 0, .inl 0)])
  | 11 => (15, [(11, .aload_n 0, 1, 0, 0, 0, .inl 0), (12, .getfield 19, 3, 12, 2, 2, .inl 0)])
  | 15 => (16, [(15, .areturn, 1, 0, 0, 0, .inl 0)])
  | n => (n, [])
theorem ck_12057 : ∀ pc, px_cks pn_i12057 (bk_12057 pc).1 pc (bk_12057 pc).2 = true := by
  intro pc
  unfold bk_12057
  split <;> first | decide +kernel | simp [px_cks]
/-- NoThree.isCost(I)Z -/
def bk_12058 : Nat → Nat × List px_E := fun pc => match pc with
  | 0 => (14, [(0, .iload_n 0, 1, 0, 0, 0, .inl 0), (1, .ifCond .lt 13, 3, 14, 0, 0, .inl 0), (4, .iload_n 0, 1, 0, 0, 0, .inl 0), (5, .bipush 99, 2, 0, 0, 0, .inl (nI 99)), (7, .if_icmp .gt 7, 3, 14, 0, 0, .inl 0), (10, .iconst 1, 1, 0, 0, 0, .inl (nI 1)), (11, .goto 4, 3, 15, 0, 0, .inl 0)])
  | 14 => (15, [(14, .iconst 0, 1, 0, 0, 0, .inl (nI 0))])
  | 15 => (16, [(15, .ireturn, 1, 0, 0, 0, .inl 0)])
  | n => (n, [])
theorem ck_12058 : ∀ pc, px_cks pn_i12058 (bk_12058 pc).1 pc (bk_12058 pc).2 = true := by
  intro pc
  unfold bk_12058
  split <;> first | decide +kernel | simp [px_cks]
/-- NoThree.nextDraw(I)I -/
def bk_12059 : Nat → Nat × List px_E := fun pc => match pc with
  | 0 => (10, [(0, .ldc_w 390, 3, 0, 0, 0, .inl (nI 1103515245)), (3, .iload_n 0, 1, 0, 0, 0, .inl 0), (4, .imul, 1, 0, 0, 0, .inl 0), (5, .sipush 12345, 3, 0, 0, 0, .inl (nI 12345)), (8, .iadd, 1, 0, 0, 0, .inl 0), (9, .ireturn, 1, 0, 0, 0, .inl 0)])
  | n => (n, [])
theorem ck_12059 : ∀ pc, px_cks pn_i12059 (bk_12059 pc).1 pc (bk_12059 pc).2 = true := by
  intro pc
  unfold bk_12059
  split <;> first | decide +kernel | simp [px_cks]
/-- NoThree.convene(LNoThree$Town;)V -/
def bk_12060 : Nat → Nat × List px_E := fun pc => match pc with
  | 0 => (16, [(0, .aload_n 0, 1, 0, 0, 0, .inl 0), (1, .getfield 71, 3, 12, 10, 2, .inl 0), (4, .aload_n 0, 1, 0, 0, 0, .inl 0), (5, .getfield 12, 3, 12, 0, 2, .inl 0), (8, .getfield 163, 3, 1, 1, 2, .inl 0), (11, .aload_n 1, 1, 1, 0, 0, .inl 0), (12, .invokevirtual 391, 3, 2002, 3, 2, .inl 0), (15, .return_, 1, 0, 0, 0, .inl 0)])
  | n => (n, [])
theorem ck_12060 : ∀ pc, px_cks pn_i12060 (bk_12060 pc).1 pc (bk_12060 pc).2 = true := by
  intro pc
  unfold bk_12060
  split <;> first | decide +kernel | simp [px_cks]
/-- NoThree.settle(I)V -/
def bk_12061 : Nat → Nat × List px_E := fun pc => match pc with
  | 0 => (19, [(0, .aload_n 0, 1, 0, 0, 0, .inl 0), (1, .getfield 12, 3, 12, 0, 2, .inl 0), (4, .invokevirtual 190, 3, 1004, 1, 1, .inl 0), (7, .aload_n 0, 1, 0, 0, 0, .inl 0), (8, .getfield 12, 3, 12, 0, 2, .inl 0), (11, .getfield 131, 3, 1, 0, 2, .inl 0), (14, .iload_n 1, 1, 1, 0, 0, .inl 0), (15, .invokevirtual 394, 3, 11011, 2, 11, .inl 0), (18, .return_, 1, 0, 0, 0, .inl 0)])
  | n => (n, [])
theorem ck_12061 : ∀ pc, px_cks pn_i12061 (bk_12061 pc).1 pc (bk_12061 pc).2 = true := by
  intro pc
  unfold bk_12061
  split <;> first | decide +kernel | simp [px_cks]
/-- NoThree.reasonAgainstWall(II)I -/
def bk_12062 : Nat → Nat × List px_E := fun pc => match pc with
  | 0 => (17, [(0, .aload_n 0, 1, 0, 0, 0, .inl 0), (1, .getfield 12, 3, 12, 0, 2, .inl 0), (4, .getfield 131, 3, 1, 0, 2, .inl 0), (7, .iload_n 1, 1, 1, 0, 0, .inl 0), (8, .iload_n 2, 1, 2, 0, 0, .inl 0), (9, .invokevirtual 397, 3, 11003, 3, 11, .inl 0), (12, .ifCond .ne 5, 3, 17, 0, 0, .inl 0), (15, .iconst 1, 1, 0, 0, 0, .inl (nI 1)), (16, .ireturn, 1, 0, 0, 0, .inl 0)])
  | 17 => (36, [(17, .aload_n 0, 1, 0, 0, 0, .inl 0), (18, .getfield 12, 3, 12, 0, 2, .inl 0), (21, .getfield 131, 3, 1, 0, 2, .inl 0), (24, .iload_n 1, 1, 1, 0, 0, .inl 0), (25, .iload_n 2, 1, 2, 0, 0, .inl 0), (26, .invokevirtual 381, 3, 11006, 3, 11, .inl 0), (29, .ifCond .eq 7, 3, 36, 0, 0, .inl 0), (32, .iconst 0, 1, 0, 0, 0, .inl (nI 0)), (33, .goto 4, 3, 37, 0, 0, .inl 0)])
  | 36 => (37, [(36, .iconst 5, 1, 0, 0, 0, .inl (nI 5))])
  | 37 => (38, [(37, .ireturn, 1, 0, 0, 0, .inl 0)])
  | n => (n, [])
theorem ck_12062 : ∀ pc, px_cks pn_i12062 (bk_12062 pc).1 pc (bk_12062 pc).2 = true := by
  intro pc
  unfold bk_12062
  split <;> first | decide +kernel | simp [px_cks]
/-- NoThree.nextToGrowBy()I -/
def bk_12063 : Nat → Nat × List px_E := fun pc => match pc with
  | 0 => (17, [(0, .aload_n 0, 1, 0, 0, 0, .inl 0), (1, .getfield 12, 3, 12, 0, 2, .inl 0), (4, .getfield 131, 3, 1, 0, 2, .inl 0), (7, .getfield 179, 3, 11, 0, 0, .inl 0), (10, .bipush 11, 2, 0, 0, 0, .inl (nI 11)), (12, .if_icmp .lt 5, 3, 17, 0, 0, .inl 0), (15, .iconst (-1), 1, 0, 0, 0, .inl (-1)), (16, .ireturn, 1, 0, 0, 0, .inl 0)])
  | 17 => (42, [(17, .aload_n 0, 1, 0, 0, 0, .inl 0), (18, .aload_n 0, 1, 0, 0, 0, .inl 0), (19, .getfield 12, 3, 12, 0, 2, .inl 0), (22, .getfield 131, 3, 1, 0, 2, .inl 0), (25, .invokevirtual 172, 3, 12060, 2, 12, .inl 0), (28, .aload_n 0, 1, 0, 0, 0, .inl 0), (29, .getfield 36, 3, 12, 5, 2, .inl 0), (32, .aload_n 0, 1, 0, 0, 0, .inl 0), (33, .getfield 12, 3, 12, 0, 2, .inl 0), (36, .getfield 131, 3, 1, 0, 2, .inl 0), (39, .invokevirtual 281, 3, 3002, 2, 3, .inl 0)])
  | 42 => (56, [(42, .aload_n 0, 1, 0, 0, 0, .inl 0), (43, .getfield 36, 3, 12, 5, 2, .inl 0), (46, .iconst 0, 1, 0, 0, 0, .inl (nI 0)), (47, .invokevirtual 290, 3, 3007, 2, 3, .inl 0), (50, .invokestatic 182, 3, 21000, 1, 0, .inl 0), (53, .istore_n 1, 1, 1, 0, 0, .inl 0), (54, .iload_n 1, 1, 1, 0, 0, .inl 0), (55, .istore_n 2, 1, 2, 0, 0, .inl 0)])
  | 56 => (62, [(56, .iload_n 2, 1, 2, 0, 0, .inl 0), (57, .ifCond .lt 63, 3, 120, 0, 0, .inl 0), (60, .iconst 0, 1, 0, 0, 0, .inl (nI 0)), (61, .istore_n 3, 1, 3, 0, 0, .inl 0)])
  | 62 => (95, [(62, .iload_n 3, 1, 3, 0, 0, .inl 0), (63, .aload_n 0, 1, 0, 0, 0, .inl 0), (64, .getfield 12, 3, 12, 0, 2, .inl 0), (67, .getfield 131, 3, 1, 0, 2, .inl 0), (70, .invokevirtual 266, 3, 11004, 1, 11, .inl 0), (73, .if_icmp .gt 41, 3, 114, 0, 0, .inl 0), (76, .iload_n 3, 1, 3, 0, 0, .inl 0), (77, .invokestatic 182, 3, 21000, 1, 0, .inl 0), (80, .iload_n 2, 1, 2, 0, 0, .inl 0), (81, .if_icmp .ne 27, 3, 108, 0, 0, .inl 0), (84, .aload_n 0, 1, 0, 0, 0, .inl 0), (85, .getfield 36, 3, 12, 5, 2, .inl 0), (88, .iload_n 3, 1, 3, 0, 0, .inl 0), (89, .invokevirtual 400, 3, 3004, 2, 3, .inl 0), (92, .ifCond .eq 16, 3, 108, 0, 0, .inl 0)])
  | 95 => (108, [(95, .aload_n 0, 1, 0, 0, 0, .inl 0), (96, .getfield 71, 3, 12, 10, 2, .inl 0), (99, .iload_n 3, 1, 3, 0, 0, .inl 0), (100, .invokevirtual 207, 3, 2006, 2, 2, .inl 0), (103, .ifCond .ne 5, 3, 108, 0, 0, .inl 0), (106, .iload_n 3, 1, 3, 0, 0, .inl 0), (107, .ireturn, 1, 0, 0, 0, .inl 0)])
  | 108 => (114, [(108, .iinc 3 1, 3, 3, 0, 0, .inl (nI 1)), (111, .goto (-49), 3, 62, 0, 0, .inl 0)])
  | 114 => (120, [(114, .iinc 2 (-1), 3, 2, 0, 0, .inl (-1)), (117, .goto (-61), 3, 56, 0, 0, .inl 0)])
  | 120 => (122, [(120, .iconst (-1), 1, 0, 0, 0, .inl (-1)), (121, .ireturn, 1, 0, 0, 0, .inl 0)])
  | n => (n, [])
theorem ck_12063 : ∀ pc, px_cks pn_i12063 (bk_12063 pc).1 pc (bk_12063 pc).2 = true := by
  intro pc
  unfold bk_12063
  split <;> first | decide +kernel | simp [px_cks]
/-- NoThree.reasonAgainstAct(LNoThree$Town;J)I -/
def bk_12064 : Nat → Nat × List px_E := fun pc => match pc with
  | 0 => (14, [(0, .lload_n 2, 1, 2, 0, 0, .inl 0), (1, .lconst 0, 1, 0, 0, 0, .inr (.inl (lN 0))), (2, .lcmp, 1, 0, 0, 0, .inl 0), (3, .ifCond .lt 11, 3, 14, 0, 0, .inl 0), (6, .lload_n 2, 1, 2, 0, 0, .inl 0), (7, .ldc2_w 403, 3, 0, 0, 0, .inr (.inl (lN 1100))), (10, .lcmp, 1, 0, 0, 0, .inl 0), (11, .ifCond .lt 5, 3, 16, 0, 0, .inl 0)])
  | 14 => (16, [(14, .iconst 1, 1, 0, 0, 0, .inl (nI 1)), (15, .ireturn, 1, 0, 0, 0, .inl 0)])
  | 16 => (23, [(16, .lload_n 2, 1, 2, 0, 0, .inl 0), (17, .l2i, 1, 0, 0, 0, .inl 0), (18, .bipush 100, 2, 0, 0, 0, .inl (nI 100)), (20, .idiv, 1, 0, 0, 0, .inl 0), (21, .istore 4, 2, 4, 0, 0, .inl 0)])
  | 23 => (30, [(23, .lload_n 2, 1, 2, 0, 0, .inl 0), (24, .l2i, 1, 0, 0, 0, .inl 0), (25, .bipush 100, 2, 0, 0, 0, .inl (nI 100)), (27, .irem, 1, 0, 0, 0, .inl 0), (28, .istore 5, 2, 5, 0, 0, .inl 0)])
  | 30 => (43, [(30, .aload_n 1, 1, 1, 0, 0, .inl 0), (31, .iload 4, 2, 4, 0, 0, .inl 0), (33, .iload 5, 2, 5, 0, 0, .inl 0), (35, .invokevirtual 397, 3, 11003, 3, 11, .inl 0), (38, .ifCond .ne 5, 3, 43, 0, 0, .inl 0), (41, .iconst 1, 1, 0, 0, 0, .inl (nI 1)), (42, .ireturn, 1, 0, 0, 0, .inl 0)])
  | 43 => (56, [(43, .aload_n 1, 1, 1, 0, 0, .inl 0), (44, .iload 4, 2, 4, 0, 0, .inl 0), (46, .iload 5, 2, 5, 0, 0, .inl 0), (48, .invokevirtual 381, 3, 11006, 3, 11, .inl 0), (51, .ifCond .eq 5, 3, 56, 0, 0, .inl 0), (54, .iconst 0, 1, 0, 0, 0, .inl (nI 0)), (55, .ireturn, 1, 0, 0, 0, .inl 0)])
  | 56 => (61, [(56, .aload_n 0, 1, 0, 0, 0, .inl 0), (57, .aload_n 1, 1, 1, 0, 0, .inl 0), (58, .invokevirtual 172, 3, 12060, 2, 12, .inl 0)])
  | 61 => (73, [(61, .aload_n 0, 1, 0, 0, 0, .inl 0), (62, .getfield 71, 3, 12, 10, 2, .inl 0), (65, .iload 4, 2, 4, 0, 0, .inl 0), (67, .iload 5, 2, 5, 0, 0, .inl 0), (69, .invokevirtual 187, 3, 2005, 3, 2, .inl 0), (72, .ireturn, 1, 0, 0, 0, .inl 0)])
  | n => (n, [])
theorem ck_12064 : ∀ pc, px_cks pn_i12064 (bk_12064 pc).1 pc (bk_12064 pc).2 = true := by
  intro pc
  unfold bk_12064
  split <;> first | decide +kernel | simp [px_cks]
/-- NoThree.turnDoor(LNoThree$Town;J)V -/
def bk_12065 : Nat → Nat × List px_E := fun pc => match pc with
  | 0 => (6, [(0, .lload_n 1, 1, 1, 0, 0, .inl 0), (1, .l2i, 1, 0, 0, 0, .inl 0), (2, .bipush 100, 2, 0, 0, 0, .inl (nI 100)), (4, .idiv, 1, 0, 0, 0, .inl 0), (5, .istore_n 3, 1, 3, 0, 0, .inl 0)])
  | 6 => (13, [(6, .lload_n 1, 1, 1, 0, 0, .inl 0), (7, .l2i, 1, 0, 0, 0, .inl 0), (8, .bipush 100, 2, 0, 0, 0, .inl (nI 100)), (10, .irem, 1, 0, 0, 0, .inl 0), (11, .istore 4, 2, 4, 0, 0, .inl 0)])
  | 13 => (33, [(13, .aload_n 0, 1, 0, 0, 0, .inl 0), (14, .iload_n 3, 1, 3, 0, 0, .inl 0), (15, .iload 4, 2, 4, 0, 0, .inl 0), (17, .invokevirtual 381, 3, 11006, 3, 11, .inl 0), (20, .ifCond .eq 13, 3, 33, 0, 0, .inl 0), (23, .aload_n 0, 1, 0, 0, 0, .inl 0), (24, .iload_n 3, 1, 3, 0, 0, .inl 0), (25, .iload 4, 2, 4, 0, 0, .inl 0), (27, .invokevirtual 204, 3, 11010, 3, 11, .inl 0), (30, .goto 10, 3, 40, 0, 0, .inl 0)])
  | 33 => (40, [(33, .aload_n 0, 1, 0, 0, 0, .inl 0), (34, .iload_n 3, 1, 3, 0, 0, .inl 0), (35, .iload 4, 2, 4, 0, 0, .inl 0), (37, .invokevirtual 193, 3, 11009, 3, 11, .inl 0)])
  | 40 => (41, [(40, .return_, 1, 0, 0, 0, .inl 0)])
  | n => (n, [])
theorem ck_12065 : ∀ pc, px_cks pn_i12065 (bk_12065 pc).1 pc (bk_12065 pc).2 = true := by
  intro pc
  unfold bk_12065
  split <;> first | decide +kernel | simp [px_cks]
/-- NoThree.numberAt(II)J -/
def bk_12066 : Nat → Nat × List px_E := fun pc => match pc with
  | 0 => (7, [(0, .iload_n 1, 1, 1, 0, 0, .inl 0), (1, .bipush 40, 2, 0, 0, 0, .inl (nI 40)), (3, .imul, 1, 0, 0, 0, .inl 0), (4, .iload_n 2, 1, 2, 0, 0, .inl 0), (5, .iadd, 1, 0, 0, 0, .inl 0), (6, .istore_n 3, 1, 3, 0, 0, .inl 0)])
  | 7 => (29, [(7, .iload_n 3, 1, 3, 0, 0, .inl 0), (8, .ifCond .lt 21, 3, 29, 0, 0, .inl 0), (11, .iload_n 3, 1, 3, 0, 0, .inl 0), (12, .aload_n 0, 1, 0, 0, 0, .inl 0), (13, .getfield 89, 3, 12, 13, 2, .inl 0), (16, .arraylength, 1, 0, 0, 0, .inl 0), (17, .if_icmp .ge 12, 3, 29, 0, 0, .inl 0), (20, .aload_n 0, 1, 0, 0, 0, .inl 0), (21, .getfield 89, 3, 12, 13, 2, .inl 0), (24, .iload_n 3, 1, 3, 0, 0, .inl 0), (25, .laload, 1, 0, 0, 0, .inl 0), (26, .goto 4, 3, 30, 0, 0, .inl 0)])
  | 29 => (30, [(29, .lconst 0, 1, 0, 0, 0, .inr (.inl (lN 0)))])
  | 30 => (31, [(30, .lreturn, 1, 0, 0, 0, .inl 0)])
  | n => (n, [])
theorem ck_12066 : ∀ pc, px_cks pn_i12066 (bk_12066 pc).1 pc (bk_12066 pc).2 = true := by
  intro pc
  unfold bk_12066
  split <;> first | decide +kernel | simp [px_cks]
/-- NoThree.putNumber(IIJ)V -/
def bk_12067 : Nat → Nat × List px_E := fun pc => match pc with
  | 0 => (8, [(0, .iload_n 1, 1, 1, 0, 0, .inl 0), (1, .bipush 40, 2, 0, 0, 0, .inl (nI 40)), (3, .imul, 1, 0, 0, 0, .inl 0), (4, .iload_n 2, 1, 2, 0, 0, .inl 0), (5, .iadd, 1, 0, 0, 0, .inl 0), (6, .istore 5, 2, 5, 0, 0, .inl 0)])
  | 8 => (40, [(8, .iload 5, 2, 5, 0, 0, .inl 0), (10, .ifCond .lt 30, 3, 40, 0, 0, .inl 0), (13, .iload 5, 2, 5, 0, 0, .inl 0), (15, .aload_n 0, 1, 0, 0, 0, .inl 0), (16, .getfield 89, 3, 12, 13, 2, .inl 0), (19, .arraylength, 1, 0, 0, 0, .inl 0), (20, .if_icmp .ge 20, 3, 40, 0, 0, .inl 0), (23, .aload_n 0, 1, 0, 0, 0, .inl 0), (24, .getfield 89, 3, 12, 13, 2, .inl 0), (27, .iload 5, 2, 5, 0, 0, .inl 0), (29, .aload_n 0, 1, 0, 0, 0, .inl 0), (30, .getfield 93, 3, 12, 14, 2, .inl 0), (33, .iload_n 1, 1, 1, 0, 0, .inl 0), (34, .iaload, 1, 0, 0, 0, .inl 0), (35, .lload_n 3, 1, 3, 0, 0, .inl 0), (36, .invokestatic 405, 3, 12068, 2, 0, .inl 0), (39, .lastore, 1, 0, 0, 0, .inl 0)])
  | 40 => (41, [(40, .return_, 1, 0, 0, 0, .inl 0)])
  | n => (n, [])
theorem ck_12067 : ∀ pc, px_cks pn_i12067 (bk_12067 pc).1 pc (bk_12067 pc).2 = true := by
  intro pc
  unfold bk_12067
  split <;> first | decide +kernel | simp [px_cks]
/-- NoThree.cutTo(IJ)J -/
def bk_12068 : Nat → Nat × List px_E := fun pc => match pc with
  | 0 => (28, [(0, .iload_n 0, 1, 0, 0, 0, .inl 0), (1, .tableswitch 41 0 2 #[27, 32, 37], 27, 12, 0, 0, .inl 0)])
  | 28 => (33, [(28, .lload_n 1, 1, 1, 0, 0, .inl 0), (29, .l2i, 1, 0, 0, 0, .inl 0), (30, .i2b, 1, 0, 0, 0, .inl 0), (31, .i2l, 1, 0, 0, 0, .inl 0), (32, .lreturn, 1, 0, 0, 0, .inl 0)])
  | 33 => (38, [(33, .lload_n 1, 1, 1, 0, 0, .inl 0), (34, .l2i, 1, 0, 0, 0, .inl 0), (35, .i2s, 1, 0, 0, 0, .inl 0), (36, .i2l, 1, 0, 0, 0, .inl 0), (37, .lreturn, 1, 0, 0, 0, .inl 0)])
  | 38 => (42, [(38, .lload_n 1, 1, 1, 0, 0, .inl 0), (39, .l2i, 1, 0, 0, 0, .inl 0), (40, .i2l, 1, 0, 0, 0, .inl 0), (41, .lreturn, 1, 0, 0, 0, .inl 0)])
  | 42 => (44, [(42, .lload_n 1, 1, 1, 0, 0, .inl 0), (43, .lreturn, 1, 0, 0, 0, .inl 0)])
  | n => (n, [])
theorem ck_12068 : ∀ pc, px_cks pn_i12068 (bk_12068 pc).1 pc (bk_12068 pc).2 = true := by
  intro pc
  unfold bk_12068
  split <;> first | decide +kernel | simp [px_cks]
/-- java/lang/Integer.bitCount(I)I -/
def bk_21000 : Nat → Nat × List px_E := fun pc => match pc with
  | 0 => (10, [(0, .iload_n 0, 1, 0, 0, 0, .inl 0), (1, .iload_n 0, 1, 0, 0, 0, .inl 0), (2, .iconst 1, 1, 0, 0, 0, .inl (nI 1)), (3, .iushr, 1, 0, 0, 0, .inl 0), (4, .ldc_w 265, 3, 0, 0, 0, .inl (nI 1431655765)), (7, .iand, 1, 0, 0, 0, .inl 0), (8, .isub, 1, 0, 0, 0, .inl 0), (9, .istore_n 0, 1, 0, 0, 0, .inl 0)])
  | 10 => (24, [(10, .iload_n 0, 1, 0, 0, 0, .inl 0), (11, .ldc_w 266, 3, 0, 0, 0, .inl (nI 858993459)), (14, .iand, 1, 0, 0, 0, .inl 0), (15, .iload_n 0, 1, 0, 0, 0, .inl 0), (16, .iconst 2, 1, 0, 0, 0, .inl (nI 2)), (17, .iushr, 1, 0, 0, 0, .inl 0), (18, .ldc_w 266, 3, 0, 0, 0, .inl (nI 858993459)), (21, .iand, 1, 0, 0, 0, .inl 0), (22, .iadd, 1, 0, 0, 0, .inl 0), (23, .istore_n 0, 1, 0, 0, 0, .inl 0)])
  | 24 => (34, [(24, .iload_n 0, 1, 0, 0, 0, .inl 0), (25, .iload_n 0, 1, 0, 0, 0, .inl 0), (26, .iconst 4, 1, 0, 0, 0, .inl (nI 4)), (27, .iushr, 1, 0, 0, 0, .inl 0), (28, .iadd, 1, 0, 0, 0, .inl 0), (29, .ldc_w 267, 3, 0, 0, 0, .inl (nI 252645135)), (32, .iand, 1, 0, 0, 0, .inl 0), (33, .istore_n 0, 1, 0, 0, 0, .inl 0)])
  | 34 => (41, [(34, .iload_n 0, 1, 0, 0, 0, .inl 0), (35, .iload_n 0, 1, 0, 0, 0, .inl 0), (36, .bipush 8, 2, 0, 0, 0, .inl (nI 8)), (38, .iushr, 1, 0, 0, 0, .inl 0), (39, .iadd, 1, 0, 0, 0, .inl 0), (40, .istore_n 0, 1, 0, 0, 0, .inl 0)])
  | 41 => (48, [(41, .iload_n 0, 1, 0, 0, 0, .inl 0), (42, .iload_n 0, 1, 0, 0, 0, .inl 0), (43, .bipush 16, 2, 0, 0, 0, .inl (nI 16)), (45, .iushr, 1, 0, 0, 0, .inl 0), (46, .iadd, 1, 0, 0, 0, .inl 0), (47, .istore_n 0, 1, 0, 0, 0, .inl 0)])
  | 48 => (53, [(48, .iload_n 0, 1, 0, 0, 0, .inl 0), (49, .bipush 63, 2, 0, 0, 0, .inl (nI 63)), (51, .iand, 1, 0, 0, 0, .inl 0), (52, .ireturn, 1, 0, 0, 0, .inl 0)])
  | n => (n, [])
theorem ck_21000 : ∀ pc, px_cks pn_i21000 (bk_21000 pc).1 pc (bk_21000 pc).2 = true := by
  intro pc
  unfold bk_21000
  split <;> first | decide +kernel | simp [px_cks]
/-- java/util/Arrays.fill([II)V -/
def bk_22000 : Nat → Nat × List px_E := fun pc => match pc with
  | 0 => (5, [(0, .iconst 0, 1, 0, 0, 0, .inl (nI 0)), (1, .istore_n 2, 1, 2, 0, 0, .inl 0), (2, .aload_n 0, 1, 0, 0, 0, .inl 0), (3, .arraylength, 1, 0, 0, 0, .inl 0), (4, .istore_n 3, 1, 3, 0, 0, .inl 0)])
  | 5 => (20, [(5, .iload_n 2, 1, 2, 0, 0, .inl 0), (6, .iload_n 3, 1, 3, 0, 0, .inl 0), (7, .if_icmp .ge 13, 3, 20, 0, 0, .inl 0), (10, .aload_n 0, 1, 0, 0, 0, .inl 0), (11, .iload_n 2, 1, 2, 0, 0, .inl 0), (12, .iload_n 1, 1, 1, 0, 0, .inl 0), (13, .iastore, 1, 0, 0, 0, .inl 0), (14, .iinc 2 1, 3, 2, 0, 0, .inl (nI 1)), (17, .goto (-12), 3, 5, 0, 0, .inl 0)])
  | 20 => (21, [(20, .return_, 1, 0, 0, 0, .inl 0)])
  | n => (n, [])
theorem ck_22000 : ∀ pc, px_cks pn_i22000 (bk_22000 pc).1 pc (bk_22000 pc).2 = true := by
  intro pc
  unfold bk_22000
  split <;> first | decide +kernel | simp [px_cks]
/-- java/lang/String.length()I -/
def bk_23000 : Nat → Nat × List px_E := fun pc => match pc with
  | 0 => (11, [(0, .aload_n 0, 1, 0, 0, 0, .inl 0), (1, .getfield 9, 3, 23, 0, 2, .inl 0), (4, .arraylength, 1, 0, 0, 0, .inl 0), (5, .aload_n 0, 1, 0, 0, 0, .inl 0), (6, .invokevirtual 335, 3, 23001, 1, 23, .inl 0), (9, .ishr, 1, 0, 0, 0, .inl 0), (10, .ireturn, 1, 0, 0, 0, .inl 0)])
  | n => (n, [])
theorem ck_23000 : ∀ pc, px_cks pn_i23000 (bk_23000 pc).1 pc (bk_23000 pc).2 = true := by
  intro pc
  unfold bk_23000
  split <;> first | decide +kernel | simp [px_cks]
