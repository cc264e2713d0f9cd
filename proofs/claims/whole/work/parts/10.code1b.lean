/-- NoThree$Gossip.canBeToldToo(III)Z -/
def bk_4010 : Nat → Nat × List px_E := fun pc => match pc with
  | 0 => (6, [(0, .iload_n 3, 1, 3, 0, 0, .inl 0), (1, .istore 4, 2, 4, 0, 0, .inl 0), (3, .iconst 0, 1, 0, 0, 0, .inl (nI 0)), (4, .istore 5, 2, 5, 0, 0, .inl 0)])
  | 6 => (22, [(6, .iload 5, 2, 5, 0, 0, .inl 0), (8, .sipush 2048, 3, 0, 0, 0, .inl (nI 2048)), (11, .if_icmp .ge 57, 3, 68, 0, 0, .inl 0), (14, .iload 4, 2, 4, 0, 0, .inl 0), (16, .iconst 1, 1, 0, 0, 0, .inl (nI 1)), (17, .iload_n 1, 1, 1, 0, 0, .inl 0), (18, .ishl, 1, 0, 0, 0, .inl 0), (19, .ior, 1, 0, 0, 0, .inl 0), (20, .istore 6, 2, 6, 0, 0, .inl 0)])
  | 22 => (46, [(22, .aload_n 0, 1, 0, 0, 0, .inl 0), (23, .getfield 12, 3, 4, 0, 2, .inl 0), (26, .iload 6, 2, 6, 0, 0, .inl 0), (28, .invokevirtual 84, 3, 3003, 2, 3, .inl 0), (31, .iload_n 2, 1, 2, 0, 0, .inl 0), (32, .iand, 1, 0, 0, 0, .inl 0), (33, .invokestatic 56, 3, 21000, 1, 0, .inl 0), (36, .iload 6, 2, 6, 0, 0, .inl 0), (38, .invokestatic 56, 3, 21000, 1, 0, .inl 0), (41, .if_icmp .ge 5, 3, 46, 0, 0, .inl 0), (44, .iconst 0, 1, 0, 0, 0, .inl (nI 0)), (45, .ireturn, 1, 0, 0, 0, .inl 0)])
  | 46 => (54, [(46, .iload 4, 2, 4, 0, 0, .inl 0), (48, .ifCond .ne 6, 3, 54, 0, 0, .inl 0), (51, .goto 17, 3, 68, 0, 0, .inl 0)])
  | 54 => (62, [(54, .iload 4, 2, 4, 0, 0, .inl 0), (56, .iconst 1, 1, 0, 0, 0, .inl (nI 1)), (57, .isub, 1, 0, 0, 0, .inl 0), (58, .iload_n 3, 1, 3, 0, 0, .inl 0), (59, .iand, 1, 0, 0, 0, .inl 0), (60, .istore 4, 2, 4, 0, 0, .inl 0)])
  | 62 => (68, [(62, .iinc 5 1, 3, 5, 0, 0, .inl (nI 1)), (65, .goto (-59), 3, 6, 0, 0, .inl 0)])
  | 68 => (70, [(68, .iconst 1, 1, 0, 0, 0, .inl (nI 1)), (69, .ireturn, 1, 0, 0, 0, .inl 0)])
  | n => (n, [])
theorem ck_4010 : ∀ pc, px_cks pn_i4010 (bk_4010 pc).1 pc (bk_4010 pc).2 = true := by
  intro pc
  unfold bk_4010
  split <;> first | decide +kernel | simp [px_cks]
/-- NoThree$Healer.fewestWalls(LNoThree$Town;)I -/
def bk_5002 : Nat → Nat × List px_E := fun pc => match pc with
  | 0 => (10, [(0, .aload_n 0, 1, 0, 0, 0, .inl 0), (1, .getfield 12, 3, 5, 0, 2, .inl 0), (4, .aload_n 1, 1, 1, 0, 0, .inl 0), (5, .invokevirtual 24, 3, 11007, 2, 11, .inl 0), (8, .iconst 0, 1, 0, 0, 0, .inl (nI 0)), (9, .istore_n 2, 1, 2, 0, 0, .inl 0)])
  | 10 => (42, [(10, .iload_n 2, 1, 2, 0, 0, .inl 0), (11, .bipush 6, 2, 0, 0, 0, .inl (nI 6)), (13, .if_icmp .gt 35, 3, 48, 0, 0, .inl 0), (16, .aload_n 0, 1, 0, 0, 0, .inl 0), (17, .ldc2_w 18, 3, 0, 0, 0, .inr (.inl (-1))), (20, .putfield 20, 3, 5, 1, 1, .inl 0), (23, .aload_n 0, 1, 0, 0, 0, .inl 0), (24, .iload_n 2, 1, 2, 0, 0, .inl 0), (25, .lconst 0, 1, 0, 0, 0, .inr (.inl (lN 0))), (26, .invokevirtual 28, 3, 5003, 3, 5, .inl 0), (29, .aload_n 0, 1, 0, 0, 0, .inl 0), (30, .getfield 20, 3, 5, 1, 1, .inl 0), (33, .ldc2_w 18, 3, 0, 0, 0, .inr (.inl (-1))), (36, .lcmp, 1, 0, 0, 0, .inl 0), (37, .ifCond .eq 5, 3, 42, 0, 0, .inl 0), (40, .iload_n 2, 1, 2, 0, 0, .inl 0), (41, .ireturn, 1, 0, 0, 0, .inl 0)])
  | 42 => (48, [(42, .iinc 2 1, 3, 2, 0, 0, .inl (nI 1)), (45, .goto (-35), 3, 10, 0, 0, .inl 0)])
  | 48 => (51, [(48, .bipush 7, 2, 0, 0, 0, .inl (nI 7)), (50, .ireturn, 1, 0, 0, 0, .inl 0)])
  | n => (n, [])
theorem ck_5002 : ∀ pc, px_cks pn_i5002 (bk_5002 pc).1 pc (bk_5002 pc).2 = true := by
  intro pc
  unfold bk_5002
  split <;> first | decide +kernel | simp [px_cks]
/-- NoThree$Healer.heal(IJ)V -/
def bk_5003 : Nat → Nat × List px_E := fun pc => match pc with
  | 0 => (29, [(0, .aload_n 0, 1, 0, 0, 0, .inl 0), (1, .getfield 12, 3, 5, 0, 2, .inl 0), (4, .iconst 0, 1, 0, 0, 0, .inl (nI 0)), (5, .invokevirtual 32, 3, 11024, 2, 11, .inl 0), (8, .istore 4, 2, 4, 0, 0, .inl 0), (10, .iload 4, 2, 4, 0, 0, .inl 0), (12, .iconst (-1), 1, 0, 0, 0, .inl (-1)), (13, .if_icmp .ne 16, 3, 29, 0, 0, .inl 0), (16, .aload_n 0, 1, 0, 0, 0, .inl 0), (17, .aload_n 0, 1, 0, 0, 0, .inl 0), (18, .getfield 20, 3, 5, 1, 1, .inl 0), (21, .lload_n 2, 1, 2, 0, 0, .inl 0), (22, .invokestatic 36, 3, 20003, 2, 4, .inl 0), (25, .putfield 20, 3, 5, 1, 1, .inl 0), (28, .return_, 1, 0, 0, 0, .inl 0)])
  | 29 => (34, [(29, .iload_n 1, 1, 1, 0, 0, .inl 0), (30, .ifCond .gt 4, 3, 34, 0, 0, .inl 0), (33, .return_, 1, 0, 0, 0, .inl 0)])
  | 34 => (42, [(34, .iload 4, 2, 4, 0, 0, .inl 0), (36, .sipush 10000, 3, 0, 0, 0, .inl (nI 10000)), (39, .idiv, 1, 0, 0, 0, .inl 0), (40, .istore 5, 2, 5, 0, 0, .inl 0)])
  | 42 => (52, [(42, .iload 4, 2, 4, 0, 0, .inl 0), (44, .bipush 100, 2, 0, 0, 0, .inl (nI 100)), (46, .idiv, 1, 0, 0, 0, .inl 0), (47, .bipush 100, 2, 0, 0, 0, .inl (nI 100)), (49, .irem, 1, 0, 0, 0, .inl 0), (50, .istore 6, 2, 6, 0, 0, .inl 0)])
  | 52 => (59, [(52, .iload 4, 2, 4, 0, 0, .inl 0), (54, .bipush 100, 2, 0, 0, 0, .inl (nI 100)), (56, .irem, 1, 0, 0, 0, .inl 0), (57, .istore 7, 2, 7, 0, 0, .inl 0)])
  | 59 => (90, [(59, .aload_n 0, 1, 0, 0, 0, .inl 0), (60, .iload 5, 2, 5, 0, 0, .inl 0), (62, .iload 6, 2, 6, 0, 0, .inl 0), (64, .iload_n 1, 1, 1, 0, 0, .inl 0), (65, .lload_n 2, 1, 2, 0, 0, .inl 0), (66, .invokevirtual 42, 3, 5004, 5, 5, .inl 0), (69, .aload_n 0, 1, 0, 0, 0, .inl 0), (70, .iload 5, 2, 5, 0, 0, .inl 0), (72, .iload 7, 2, 7, 0, 0, .inl 0), (74, .iload_n 1, 1, 1, 0, 0, .inl 0), (75, .lload_n 2, 1, 2, 0, 0, .inl 0), (76, .invokevirtual 42, 3, 5004, 5, 5, .inl 0), (79, .aload_n 0, 1, 0, 0, 0, .inl 0), (80, .iload 6, 2, 6, 0, 0, .inl 0), (82, .iload 7, 2, 7, 0, 0, .inl 0), (84, .iload_n 1, 1, 1, 0, 0, .inl 0), (85, .lload_n 2, 1, 2, 0, 0, .inl 0), (86, .invokevirtual 42, 3, 5004, 5, 5, .inl 0), (89, .return_, 1, 0, 0, 0, .inl 0)])
  | n => (n, [])
theorem ck_5003 : ∀ pc, px_cks pn_i5003 (bk_5003 pc).1 pc (bk_5003 pc).2 = true := by
  intro pc
  unfold bk_5003
  split <;> first | decide +kernel | simp [px_cks]
/-- NoThree$Healer.healBy(IIIJ)V -/
def bk_5004 : Nat → Nat × List px_E := fun pc => match pc with
  | 0 => (24, [(0, .aload_n 0, 1, 0, 0, 0, .inl 0), (1, .getfield 12, 3, 5, 0, 2, .inl 0), (4, .iload_n 1, 1, 1, 0, 0, .inl 0), (5, .iload_n 2, 1, 2, 0, 0, .inl 0), (6, .invokevirtual 46, 3, 11010, 3, 11, .inl 0), (9, .aload_n 0, 1, 0, 0, 0, .inl 0), (10, .iload_n 3, 1, 3, 0, 0, .inl 0), (11, .iconst 1, 1, 0, 0, 0, .inl (nI 1)), (12, .isub, 1, 0, 0, 0, .inl 0), (13, .lload 4, 2, 4, 0, 0, .inl 0), (15, .iload_n 1, 1, 1, 0, 0, .inl 0), (16, .iload_n 2, 1, 2, 0, 0, .inl 0), (17, .invokestatic 50, 3, 5005, 2, 0, .inl 0), (20, .lor, 1, 0, 0, 0, .inl 0), (21, .invokevirtual 28, 3, 5003, 3, 5, .inl 0)])
  | 24 => (34, [(24, .aload_n 0, 1, 0, 0, 0, .inl 0), (25, .getfield 12, 3, 5, 0, 2, .inl 0), (28, .iload_n 1, 1, 1, 0, 0, .inl 0), (29, .iload_n 2, 1, 2, 0, 0, .inl 0), (30, .invokevirtual 54, 3, 11009, 3, 11, .inl 0), (33, .return_, 1, 0, 0, 0, .inl 0)])
  | n => (n, [])
theorem ck_5004 : ∀ pc, px_cks pn_i5004 (bk_5004 pc).1 pc (bk_5004 pc).2 = true := by
  intro pc
  unfold bk_5004
  split <;> first | decide +kernel | simp [px_cks]
/-- NoThree$Healer.bitOf(II)J -/
def bk_5005 : Nat → Nat × List px_E := fun pc => match pc with
  | 0 => (17, [(0, .iload_n 0, 1, 0, 0, 0, .inl 0), (1, .bipush 22, 2, 0, 0, 0, .inl (nI 22)), (3, .iload_n 0, 1, 0, 0, 0, .inl 0), (4, .isub, 1, 0, 0, 0, .inl 0), (5, .iconst 1, 1, 0, 0, 0, .inl (nI 1)), (6, .isub, 1, 0, 0, 0, .inl 0), (7, .imul, 1, 0, 0, 0, .inl 0), (8, .iconst 2, 1, 0, 0, 0, .inl (nI 2)), (9, .idiv, 1, 0, 0, 0, .inl 0), (10, .iload_n 1, 1, 1, 0, 0, .inl 0), (11, .iadd, 1, 0, 0, 0, .inl 0), (12, .iload_n 0, 1, 0, 0, 0, .inl 0), (13, .isub, 1, 0, 0, 0, .inl 0), (14, .iconst 1, 1, 0, 0, 0, .inl (nI 1)), (15, .isub, 1, 0, 0, 0, .inl 0), (16, .istore_n 2, 1, 2, 0, 0, .inl 0)])
  | 17 => (24, [(17, .lconst 1, 1, 0, 0, 0, .inr (.inl (lN 1))), (18, .bipush 54, 2, 0, 0, 0, .inl (nI 54)), (20, .iload_n 2, 1, 2, 0, 0, .inl 0), (21, .isub, 1, 0, 0, 0, .inl 0), (22, .lshl, 1, 0, 0, 0, .inl 0), (23, .lreturn, 1, 0, 0, 0, .inl 0)])
  | n => (n, [])
theorem ck_5005 : ∀ pc, px_cks pn_i5005 (bk_5005 pc).1 pc (bk_5005 pc).2 = true := by
  intro pc
  unfold bk_5005
  split <;> first | decide +kernel | simp [px_cks]
/-- NoThree$Healer.wallAt(I)I -/
def bk_5006 : Nat → Nat × List px_E := fun pc => match pc with
  | 0 => (4, [(0, .iload_n 1, 1, 1, 0, 0, .inl 0), (1, .istore_n 2, 1, 2, 0, 0, .inl 0), (2, .iconst 0, 1, 0, 0, 0, .inl (nI 0)), (3, .istore_n 3, 1, 3, 0, 0, .inl 0)])
  | 4 => (20, [(4, .iload_n 3, 1, 3, 0, 0, .inl 0), (5, .aload_n 0, 1, 0, 0, 0, .inl 0), (6, .getfield 12, 3, 5, 0, 2, .inl 0), (9, .getfield 57, 3, 11, 0, 0, .inl 0), (12, .if_icmp .ge 66, 3, 78, 0, 0, .inl 0), (15, .iload_n 3, 1, 3, 0, 0, .inl 0), (16, .iconst 1, 1, 0, 0, 0, .inl (nI 1)), (17, .iadd, 1, 0, 0, 0, .inl 0), (18, .istore 4, 2, 4, 0, 0, .inl 0)])
  | 20 => (51, [(20, .iload 4, 2, 4, 0, 0, .inl 0), (22, .aload_n 0, 1, 0, 0, 0, .inl 0), (23, .getfield 12, 3, 5, 0, 2, .inl 0), (26, .getfield 57, 3, 11, 0, 0, .inl 0), (29, .if_icmp .ge 43, 3, 72, 0, 0, .inl 0), (32, .aload_n 0, 1, 0, 0, 0, .inl 0), (33, .getfield 20, 3, 5, 1, 1, .inl 0), (36, .iload_n 3, 1, 3, 0, 0, .inl 0), (37, .iload 4, 2, 4, 0, 0, .inl 0), (39, .invokestatic 50, 3, 5005, 2, 0, .inl 0), (42, .land, 1, 0, 0, 0, .inl 0), (43, .lconst 0, 1, 0, 0, 0, .inr (.inl (lN 0))), (44, .lcmp, 1, 0, 0, 0, .inl 0), (45, .ifCond .ne 6, 3, 51, 0, 0, .inl 0), (48, .goto 18, 3, 66, 0, 0, .inl 0)])
  | 51 => (63, [(51, .iload_n 2, 1, 2, 0, 0, .inl 0), (52, .ifCond .ne 11, 3, 63, 0, 0, .inl 0), (55, .bipush 100, 2, 0, 0, 0, .inl (nI 100)), (57, .iload_n 3, 1, 3, 0, 0, .inl 0), (58, .imul, 1, 0, 0, 0, .inl 0), (59, .iload 4, 2, 4, 0, 0, .inl 0), (61, .iadd, 1, 0, 0, 0, .inl 0), (62, .ireturn, 1, 0, 0, 0, .inl 0)])
  | 63 => (66, [(63, .iinc 2 (-1), 3, 2, 0, 0, .inl (-1))])
  | 66 => (72, [(66, .iinc 4 1, 3, 4, 0, 0, .inl (nI 1)), (69, .goto (-49), 3, 20, 0, 0, .inl 0)])
  | 72 => (78, [(72, .iinc 3 1, 3, 3, 0, 0, .inl (nI 1)), (75, .goto (-71), 3, 4, 0, 0, .inl 0)])
  | 78 => (80, [(78, .iconst (-1), 1, 0, 0, 0, .inl (-1)), (79, .ireturn, 1, 0, 0, 0, .inl 0)])
  | n => (n, [])
theorem ck_5006 : ∀ pc, px_cks pn_i5006 (bk_5006 pc).1 pc (bk_5006 pc).2 = true := by
  intro pc
  unfold bk_5006
  split <;> first | decide +kernel | simp [px_cks]
/-- NoThree$Kin.leastNumber(LNoThree$Town;)I -/
def bk_6002 : Nat → Nat × List px_E := fun pc => match pc with
  | 0 => (22, [(0, .aload_n 0, 1, 0, 0, 0, .inl 0), (1, .aload_n 1, 1, 1, 0, 0, .inl 0), (2, .putfield 18, 3, 6, 1, 2, .inl 0), (5, .aload_n 0, 1, 0, 0, 0, .inl 0), (6, .iconst (-1), 1, 0, 0, 0, .inl (-1)), (7, .putfield 25, 3, 6, 3, 0, .inl 0), (10, .aload_n 0, 1, 0, 0, 0, .inl 0), (11, .iconst 0, 1, 0, 0, 0, .inl (nI 0)), (12, .iconst 0, 1, 0, 0, 0, .inl (nI 0)), (13, .iconst 0, 1, 0, 0, 0, .inl (nI 0)), (14, .invokevirtual 29, 3, 6003, 4, 6, .inl 0), (17, .aload_n 0, 1, 0, 0, 0, .inl 0), (18, .getfield 25, 3, 6, 3, 0, .inl 0), (21, .ireturn, 1, 0, 0, 0, .inl 0)])
  | n => (n, [])
theorem ck_6002 : ∀ pc, px_cks pn_i6002 (bk_6002 pc).1 pc (bk_6002 pc).2 = true := by
  intro pc
  unfold bk_6002
  split <;> first | decide +kernel | simp [px_cks]
/-- NoThree$Kin.numberFrom(III)V -/
def bk_6003 : Nat → Nat × List px_E := fun pc => match pc with
  | 0 => (17, [(0, .iload_n 1, 1, 1, 0, 0, .inl 0), (1, .aload_n 0, 1, 0, 0, 0, .inl 0), (2, .getfield 18, 3, 6, 1, 2, .inl 0), (5, .getfield 33, 3, 11, 0, 0, .inl 0), (8, .if_icmp .ge 9, 3, 17, 0, 0, .inl 0), (11, .iload_n 1, 1, 1, 0, 0, .inl 0), (12, .bipush 6, 2, 0, 0, 0, .inl (nI 6)), (14, .if_icmp .lt 28, 3, 42, 0, 0, .inl 0)])
  | 17 => (30, [(17, .aload_n 0, 1, 0, 0, 0, .inl 0), (18, .aload_n 0, 1, 0, 0, 0, .inl 0), (19, .getfield 25, 3, 6, 3, 0, .inl 0), (22, .iconst (-1), 1, 0, 0, 0, .inl (-1)), (23, .if_icmp .ne 7, 3, 30, 0, 0, .inl 0), (26, .iload_n 3, 1, 3, 0, 0, .inl 0), (27, .goto 11, 3, 38, 0, 0, .inl 0)])
  | 30 => (38, [(30, .aload_n 0, 1, 0, 0, 0, .inl 0), (31, .getfield 25, 3, 6, 3, 0, .inl 0), (34, .iload_n 3, 1, 3, 0, 0, .inl 0), (35, .invokestatic 36, 3, 20001, 2, 2, .inl 0)])
  | 38 => (42, [(38, .putfield 25, 3, 6, 3, 0, .inl 0), (41, .return_, 1, 0, 0, 0, .inl 0)])
  | 42 => (45, [(42, .iconst 0, 1, 0, 0, 0, .inl (nI 0)), (43, .istore 4, 2, 4, 0, 0, .inl 0)])
  | 45 => (83, [(45, .iload 4, 2, 4, 0, 0, .inl 0), (47, .aload_n 0, 1, 0, 0, 0, .inl 0), (48, .getfield 18, 3, 6, 1, 2, .inl 0), (51, .getfield 33, 3, 11, 0, 0, .inl 0), (54, .if_icmp .ge 60, 3, 114, 0, 0, .inl 0), (57, .iload_n 2, 1, 2, 0, 0, .inl 0), (58, .iconst 1, 1, 0, 0, 0, .inl (nI 1)), (59, .iload 4, 2, 4, 0, 0, .inl 0), (61, .ishl, 1, 0, 0, 0, .inl 0), (62, .iand, 1, 0, 0, 0, .inl 0), (63, .ifCond .ne 45, 3, 108, 0, 0, .inl 0), (66, .aload_n 0, 1, 0, 0, 0, .inl 0), (67, .getfield 9, 3, 6, 0, 2, .inl 0), (70, .iload_n 1, 1, 1, 0, 0, .inl 0), (71, .iload 4, 2, 4, 0, 0, .inl 0), (73, .iastore, 1, 0, 0, 0, .inl 0), (74, .iload_n 1, 1, 1, 0, 0, .inl 0), (75, .iload_n 1, 1, 1, 0, 0, .inl 0), (76, .iconst 1, 1, 0, 0, 0, .inl (nI 1)), (77, .isub, 1, 0, 0, 0, .inl 0), (78, .imul, 1, 0, 0, 0, .inl 0), (79, .iconst 2, 1, 0, 0, 0, .inl (nI 2)), (80, .idiv, 1, 0, 0, 0, .inl 0), (81, .istore 5, 2, 5, 0, 0, .inl 0)])
  | 83 => (108, [(83, .aload_n 0, 1, 0, 0, 0, .inl 0), (84, .iload_n 1, 1, 1, 0, 0, .inl 0), (85, .iconst 1, 1, 0, 0, 0, .inl (nI 1)), (86, .iadd, 1, 0, 0, 0, .inl 0), (87, .iload_n 2, 1, 2, 0, 0, .inl 0), (88, .iconst 1, 1, 0, 0, 0, .inl (nI 1)), (89, .iload 4, 2, 4, 0, 0, .inl 0), (91, .ishl, 1, 0, 0, 0, .inl 0), (92, .ior, 1, 0, 0, 0, .inl 0), (93, .iload_n 3, 1, 3, 0, 0, .inl 0), (94, .aload_n 0, 1, 0, 0, 0, .inl 0), (95, .iload_n 1, 1, 1, 0, 0, .inl 0), (96, .iload 4, 2, 4, 0, 0, .inl 0), (98, .invokevirtual 42, 3, 6004, 3, 6, .inl 0), (101, .iload 5, 2, 5, 0, 0, .inl 0), (103, .ishl, 1, 0, 0, 0, .inl 0), (104, .ior, 1, 0, 0, 0, .inl 0), (105, .invokevirtual 29, 3, 6003, 4, 6, .inl 0)])
  | 108 => (114, [(108, .iinc 4 1, 3, 4, 0, 0, .inl (nI 1)), (111, .goto (-66), 3, 45, 0, 0, .inl 0)])
  | 114 => (115, [(114, .return_, 1, 0, 0, 0, .inl 0)])
  | n => (n, [])
theorem ck_6003 : ∀ pc, px_cks pn_i6003 (bk_6003 pc).1 pc (bk_6003 pc).2 = true := by
  intro pc
  unfold bk_6003
  split <;> first | decide +kernel | simp [px_cks]
/-- NoThree$Kin.rowOf(II)I -/
def bk_6004 : Nat → Nat × List px_E := fun pc => match pc with
  | 0 => (5, [(0, .iconst 0, 1, 0, 0, 0, .inl (nI 0)), (1, .istore_n 3, 1, 3, 0, 0, .inl 0), (2, .iconst 0, 1, 0, 0, 0, .inl (nI 0)), (3, .istore 4, 2, 4, 0, 0, .inl 0)])
  | 5 => (36, [(5, .iload 4, 2, 4, 0, 0, .inl 0), (7, .iload_n 1, 1, 1, 0, 0, .inl 0), (8, .if_icmp .ge 34, 3, 42, 0, 0, .inl 0), (11, .aload_n 0, 1, 0, 0, 0, .inl 0), (12, .getfield 18, 3, 6, 1, 2, .inl 0), (15, .aload_n 0, 1, 0, 0, 0, .inl 0), (16, .getfield 9, 3, 6, 0, 2, .inl 0), (19, .iload 4, 2, 4, 0, 0, .inl 0), (21, .iaload, 1, 0, 0, 0, .inl 0), (22, .iload_n 2, 1, 2, 0, 0, .inl 0), (23, .invokevirtual 45, 3, 11006, 3, 11, .inl 0), (26, .ifCond .eq 10, 3, 36, 0, 0, .inl 0), (29, .iload_n 3, 1, 3, 0, 0, .inl 0), (30, .iconst 1, 1, 0, 0, 0, .inl (nI 1)), (31, .iload 4, 2, 4, 0, 0, .inl 0), (33, .ishl, 1, 0, 0, 0, .inl 0), (34, .ior, 1, 0, 0, 0, .inl 0), (35, .istore_n 3, 1, 3, 0, 0, .inl 0)])
  | 36 => (42, [(36, .iinc 4 1, 3, 4, 0, 0, .inl (nI 1)), (39, .goto (-34), 3, 5, 0, 0, .inl 0)])
  | 42 => (44, [(42, .iload_n 3, 1, 3, 0, 0, .inl 0), (43, .ireturn, 1, 0, 0, 0, .inl 0)])
  | n => (n, [])
theorem ck_6004 : ∀ pc, px_cks pn_i6004 (bk_6004 pc).1 pc (bk_6004 pc).2 = true := by
  intro pc
  unfold bk_6004
  split <;> first | decide +kernel | simp [px_cks]
/-- NoThree$Kin.canBeMatched(LNoThree$Town;LNoThree$Town;)Z -/
def bk_6005 : Nat → Nat × List px_E := fun pc => match pc with
  | 0 => (32, [(0, .aload_n 0, 1, 0, 0, 0, .inl 0), (1, .aload_n 1, 1, 1, 0, 0, .inl 0), (2, .putfield 18, 3, 6, 1, 2, .inl 0), (5, .aload_n 0, 1, 0, 0, 0, .inl 0), (6, .aload_n 2, 1, 2, 0, 0, .inl 0), (7, .putfield 22, 3, 6, 2, 2, .inl 0), (10, .aload_n 1, 1, 1, 0, 0, .inl 0), (11, .getfield 33, 3, 11, 0, 0, .inl 0), (14, .aload_n 2, 1, 2, 0, 0, .inl 0), (15, .getfield 33, 3, 11, 0, 0, .inl 0), (18, .if_icmp .ne 27, 3, 45, 0, 0, .inl 0), (21, .aload_n 1, 1, 1, 0, 0, .inl 0), (22, .invokevirtual 49, 3, 11015, 1, 11, .inl 0), (25, .aload_n 2, 1, 2, 0, 0, .inl 0), (26, .invokevirtual 49, 3, 11015, 1, 11, .inl 0), (29, .if_icmp .ne 16, 3, 45, 0, 0, .inl 0)])
  | 32 => (45, [(32, .aload_n 0, 1, 0, 0, 0, .inl 0), (33, .iconst 0, 1, 0, 0, 0, .inl (nI 0)), (34, .iconst 0, 1, 0, 0, 0, .inl (nI 0)), (35, .invokevirtual 53, 3, 6007, 3, 6, .inl 0), (38, .ifCond .eq 7, 3, 45, 0, 0, .inl 0), (41, .iconst 1, 1, 0, 0, 0, .inl (nI 1)), (42, .goto 4, 3, 46, 0, 0, .inl 0)])
  | 45 => (46, [(45, .iconst 0, 1, 0, 0, 0, .inl (nI 0))])
  | 46 => (47, [(46, .ireturn, 1, 0, 0, 0, .inl 0)])
  | n => (n, [])
theorem ck_6005 : ∀ pc, px_cks pn_i6005 (bk_6005 pc).1 pc (bk_6005 pc).2 = true := by
  intro pc
  unfold bk_6005
  split <;> first | decide +kernel | simp [px_cks]
/-- NoThree$Kin.matchesToItself(LNoThree$Town;)I -/
def bk_6006 : Nat → Nat × List px_E := fun pc => match pc with
  | 0 => (14, [(0, .aload_n 0, 1, 0, 0, 0, .inl 0), (1, .aload_n 1, 1, 1, 0, 0, .inl 0), (2, .putfield 18, 3, 6, 1, 2, .inl 0), (5, .aload_n 0, 1, 0, 0, 0, .inl 0), (6, .aload_n 1, 1, 1, 0, 0, .inl 0), (7, .putfield 22, 3, 6, 2, 2, .inl 0), (10, .iconst 1, 1, 0, 0, 0, .inl (nI 1)), (11, .istore_n 2, 1, 2, 0, 0, .inl 0), (12, .iconst 0, 1, 0, 0, 0, .inl (nI 0)), (13, .istore_n 3, 1, 3, 0, 0, .inl 0)])
  | 14 => (30, [(14, .iload_n 3, 1, 3, 0, 0, .inl 0), (15, .aload_n 1, 1, 1, 0, 0, .inl 0), (16, .getfield 33, 3, 11, 0, 0, .inl 0), (19, .if_icmp .ge 92, 3, 111, 0, 0, .inl 0), (22, .iconst 1, 1, 0, 0, 0, .inl (nI 1)), (23, .istore 4, 2, 4, 0, 0, .inl 0), (25, .iload_n 3, 1, 3, 0, 0, .inl 0), (26, .iconst 1, 1, 0, 0, 0, .inl (nI 1)), (27, .iadd, 1, 0, 0, 0, .inl 0), (28, .istore 5, 2, 5, 0, 0, .inl 0)])
  | 30 => (57, [(30, .iload 5, 2, 5, 0, 0, .inl 0), (32, .aload_n 1, 1, 1, 0, 0, .inl 0), (33, .getfield 33, 3, 11, 0, 0, .inl 0), (36, .if_icmp .ge 57, 3, 93, 0, 0, .inl 0), (39, .aload_n 0, 1, 0, 0, 0, .inl 0), (40, .iload_n 3, 1, 3, 0, 0, .inl 0), (41, .iload 5, 2, 5, 0, 0, .inl 0), (43, .invokevirtual 56, 3, 6008, 3, 6, .inl 0), (46, .ifCond .eq 41, 3, 87, 0, 0, .inl 0), (49, .aload_n 0, 1, 0, 0, 0, .inl 0), (50, .getfield 9, 3, 6, 0, 2, .inl 0), (53, .iload_n 3, 1, 3, 0, 0, .inl 0), (54, .iload 5, 2, 5, 0, 0, .inl 0), (56, .iastore, 1, 0, 0, 0, .inl 0)])
  | 57 => (83, [(57, .iload 4, 2, 4, 0, 0, .inl 0), (59, .aload_n 0, 1, 0, 0, 0, .inl 0), (60, .iload_n 3, 1, 3, 0, 0, .inl 0), (61, .iconst 1, 1, 0, 0, 0, .inl (nI 1)), (62, .iadd, 1, 0, 0, 0, .inl 0), (63, .iconst 1, 1, 0, 0, 0, .inl (nI 1)), (64, .iload_n 3, 1, 3, 0, 0, .inl 0), (65, .ishl, 1, 0, 0, 0, .inl 0), (66, .iconst 1, 1, 0, 0, 0, .inl (nI 1)), (67, .isub, 1, 0, 0, 0, .inl 0), (68, .iconst 1, 1, 0, 0, 0, .inl (nI 1)), (69, .iload 5, 2, 5, 0, 0, .inl 0), (71, .ishl, 1, 0, 0, 0, .inl 0), (72, .ior, 1, 0, 0, 0, .inl 0), (73, .invokevirtual 53, 3, 6007, 3, 6, .inl 0), (76, .ifCond .eq 7, 3, 83, 0, 0, .inl 0), (79, .iconst 1, 1, 0, 0, 0, .inl (nI 1)), (80, .goto 4, 3, 84, 0, 0, .inl 0)])
  | 83 => (84, [(83, .iconst 0, 1, 0, 0, 0, .inl (nI 0))])
  | 84 => (87, [(84, .iadd, 1, 0, 0, 0, .inl 0), (85, .istore 4, 2, 4, 0, 0, .inl 0)])
  | 87 => (93, [(87, .iinc 5 1, 3, 5, 0, 0, .inl (nI 1)), (90, .goto (-60), 3, 30, 0, 0, .inl 0)])
  | 93 => (105, [(93, .aload_n 0, 1, 0, 0, 0, .inl 0), (94, .getfield 9, 3, 6, 0, 2, .inl 0), (97, .iload_n 3, 1, 3, 0, 0, .inl 0), (98, .iload_n 3, 1, 3, 0, 0, .inl 0), (99, .iastore, 1, 0, 0, 0, .inl 0), (100, .iload_n 2, 1, 2, 0, 0, .inl 0), (101, .iload 4, 2, 4, 0, 0, .inl 0), (103, .imul, 1, 0, 0, 0, .inl 0), (104, .istore_n 2, 1, 2, 0, 0, .inl 0)])
  | 105 => (111, [(105, .iinc 3 1, 3, 3, 0, 0, .inl (nI 1)), (108, .goto (-94), 3, 14, 0, 0, .inl 0)])
  | 111 => (113, [(111, .iload_n 2, 1, 2, 0, 0, .inl 0), (112, .ireturn, 1, 0, 0, 0, .inl 0)])
  | n => (n, [])
theorem ck_6006 : ∀ pc, px_cks pn_i6006 (bk_6006 pc).1 pc (bk_6006 pc).2 = true := by
  intro pc
  unfold bk_6006
  split <;> first | decide +kernel | simp [px_cks]
/-- NoThree$Kin.matchFrom(II)Z -/
def bk_6007 : Nat → Nat × List px_E := fun pc => match pc with
  | 0 => (13, [(0, .iload_n 1, 1, 1, 0, 0, .inl 0), (1, .aload_n 0, 1, 0, 0, 0, .inl 0), (2, .getfield 18, 3, 6, 1, 2, .inl 0), (5, .getfield 33, 3, 11, 0, 0, .inl 0), (8, .if_icmp .lt 5, 3, 13, 0, 0, .inl 0), (11, .iconst 1, 1, 0, 0, 0, .inl (nI 1)), (12, .ireturn, 1, 0, 0, 0, .inl 0)])
  | 13 => (15, [(13, .iconst 0, 1, 0, 0, 0, .inl (nI 0)), (14, .istore_n 3, 1, 3, 0, 0, .inl 0)])
  | 15 => (50, [(15, .iload_n 3, 1, 3, 0, 0, .inl 0), (16, .aload_n 0, 1, 0, 0, 0, .inl 0), (17, .getfield 22, 3, 6, 2, 2, .inl 0), (20, .getfield 33, 3, 11, 0, 0, .inl 0), (23, .if_icmp .ge 50, 3, 73, 0, 0, .inl 0), (26, .iload_n 2, 1, 2, 0, 0, .inl 0), (27, .iconst 1, 1, 0, 0, 0, .inl (nI 1)), (28, .iload_n 3, 1, 3, 0, 0, .inl 0), (29, .ishl, 1, 0, 0, 0, .inl 0), (30, .iand, 1, 0, 0, 0, .inl 0), (31, .ifCond .ne 36, 3, 67, 0, 0, .inl 0), (34, .aload_n 0, 1, 0, 0, 0, .inl 0), (35, .iload_n 1, 1, 1, 0, 0, .inl 0), (36, .iload_n 3, 1, 3, 0, 0, .inl 0), (37, .invokevirtual 56, 3, 6008, 3, 6, .inl 0), (40, .ifCond .eq 27, 3, 67, 0, 0, .inl 0), (43, .aload_n 0, 1, 0, 0, 0, .inl 0), (44, .getfield 9, 3, 6, 0, 2, .inl 0), (47, .iload_n 1, 1, 1, 0, 0, .inl 0), (48, .iload_n 3, 1, 3, 0, 0, .inl 0), (49, .iastore, 1, 0, 0, 0, .inl 0)])
  | 50 => (67, [(50, .aload_n 0, 1, 0, 0, 0, .inl 0), (51, .iload_n 1, 1, 1, 0, 0, .inl 0), (52, .iconst 1, 1, 0, 0, 0, .inl (nI 1)), (53, .iadd, 1, 0, 0, 0, .inl 0), (54, .iload_n 2, 1, 2, 0, 0, .inl 0), (55, .iconst 1, 1, 0, 0, 0, .inl (nI 1)), (56, .iload_n 3, 1, 3, 0, 0, .inl 0), (57, .ishl, 1, 0, 0, 0, .inl 0), (58, .ior, 1, 0, 0, 0, .inl 0), (59, .invokevirtual 53, 3, 6007, 3, 6, .inl 0), (62, .ifCond .eq 5, 3, 67, 0, 0, .inl 0), (65, .iconst 1, 1, 0, 0, 0, .inl (nI 1)), (66, .ireturn, 1, 0, 0, 0, .inl 0)])
  | 67 => (73, [(67, .iinc 3 1, 3, 3, 0, 0, .inl (nI 1)), (70, .goto (-55), 3, 15, 0, 0, .inl 0)])
  | 73 => (75, [(73, .iconst 0, 1, 0, 0, 0, .inl (nI 0)), (74, .ireturn, 1, 0, 0, 0, .inl 0)])
  | n => (n, [])
theorem ck_6007 : ∀ pc, px_cks pn_i6007 (bk_6007 pc).1 pc (bk_6007 pc).2 = true := by
  intro pc
  unfold bk_6007
  split <;> first | decide +kernel | simp [px_cks]
/-- NoThree$Kin.fits(II)Z -/
def bk_6008 : Nat → Nat × List px_E := fun pc => match pc with
  | 0 => (21, [(0, .aload_n 0, 1, 0, 0, 0, .inl 0), (1, .getfield 18, 3, 6, 1, 2, .inl 0), (4, .iload_n 1, 1, 1, 0, 0, .inl 0), (5, .invokevirtual 59, 3, 11014, 2, 11, .inl 0), (8, .aload_n 0, 1, 0, 0, 0, .inl 0), (9, .getfield 22, 3, 6, 2, 2, .inl 0), (12, .iload_n 2, 1, 2, 0, 0, .inl 0), (13, .invokevirtual 59, 3, 11014, 2, 11, .inl 0), (16, .if_icmp .eq 5, 3, 21, 0, 0, .inl 0), (19, .iconst 0, 1, 0, 0, 0, .inl (nI 0)), (20, .ireturn, 1, 0, 0, 0, .inl 0)])
  | 21 => (23, [(21, .iconst 0, 1, 0, 0, 0, .inl (nI 0)), (22, .istore_n 3, 1, 3, 0, 0, .inl 0)])
  | 23 => (56, [(23, .iload_n 3, 1, 3, 0, 0, .inl 0), (24, .iload_n 1, 1, 1, 0, 0, .inl 0), (25, .if_icmp .ge 37, 3, 62, 0, 0, .inl 0), (28, .aload_n 0, 1, 0, 0, 0, .inl 0), (29, .getfield 18, 3, 6, 1, 2, .inl 0), (32, .iload_n 3, 1, 3, 0, 0, .inl 0), (33, .iload_n 1, 1, 1, 0, 0, .inl 0), (34, .invokevirtual 45, 3, 11006, 3, 11, .inl 0), (37, .aload_n 0, 1, 0, 0, 0, .inl 0), (38, .getfield 22, 3, 6, 2, 2, .inl 0), (41, .aload_n 0, 1, 0, 0, 0, .inl 0), (42, .getfield 9, 3, 6, 0, 2, .inl 0), (45, .iload_n 3, 1, 3, 0, 0, .inl 0), (46, .iaload, 1, 0, 0, 0, .inl 0), (47, .iload_n 2, 1, 2, 0, 0, .inl 0), (48, .invokevirtual 45, 3, 11006, 3, 11, .inl 0), (51, .if_icmp .eq 5, 3, 56, 0, 0, .inl 0), (54, .iconst 0, 1, 0, 0, 0, .inl (nI 0)), (55, .ireturn, 1, 0, 0, 0, .inl 0)])
  | 56 => (62, [(56, .iinc 3 1, 3, 3, 0, 0, .inl (nI 1)), (59, .goto (-36), 3, 23, 0, 0, .inl 0)])
  | 62 => (64, [(62, .iconst 1, 1, 0, 0, 0, .inl (nI 1)), (63, .ireturn, 1, 0, 0, 0, .inl 0)])
  | n => (n, [])
theorem ck_6008 : ∀ pc, px_cks pn_i6008 (bk_6008 pc).1 pc (bk_6008 pc).2 = true := by
  intro pc
  unfold bk_6008
  split <;> first | decide +kernel | simp [px_cks]
/-- NoThree$Market.visit(LNoThree$Town;)V -/
def bk_7002 : Nat → Nat × List px_E := fun pc => match pc with
  | 0 => (9, [(0, .aload_n 0, 1, 0, 0, 0, .inl 0), (1, .getfield 12, 3, 7, 0, 2, .inl 0), (4, .aload_n 1, 1, 1, 0, 0, .inl 0), (5, .invokevirtual 21, 3, 11007, 2, 11, .inl 0), (8, .return_, 1, 0, 0, 0, .inl 0)])
  | n => (n, [])
theorem ck_7002 : ∀ pc, px_cks pn_i7002 (bk_7002 pc).1 pc (bk_7002 pc).2 = true := by
  intro pc
  unfold bk_7002
  split <;> first | decide +kernel | simp [px_cks]
/-- NoThree$Market.worth(LNoThree$Town;I)I -/
def bk_7003 : Nat → Nat × List px_E := fun pc => match pc with
  | 0 => (20, [(0, .bipush 10, 2, 0, 0, 0, .inl (nI 10)), (2, .aload_n 1, 1, 1, 0, 0, .inl 0), (3, .iload_n 2, 1, 2, 0, 0, .inl 0), (4, .invokevirtual 25, 3, 11014, 2, 11, .inl 0), (7, .imul, 1, 0, 0, 0, .inl 0), (8, .iconst 4, 1, 0, 0, 0, .inl (nI 4)), (9, .aload_n 1, 1, 1, 0, 0, .inl 0), (10, .iload_n 2, 1, 2, 0, 0, .inl 0), (11, .invokevirtual 29, 3, 11018, 2, 11, .inl 0), (14, .invokestatic 32, 3, 21000, 1, 0, .inl 0), (17, .imul, 1, 0, 0, 0, .inl 0), (18, .iadd, 1, 0, 0, 0, .inl 0), (19, .ireturn, 1, 0, 0, 0, .inl 0)])
  | n => (n, [])
theorem ck_7003 : ∀ pc, px_cks pn_i7003 (bk_7003 pc).1 pc (bk_7003 pc).2 = true := by
  intro pc
  unfold bk_7003
  split <;> first | decide +kernel | simp [px_cks]
/-- NoThree$Market.nextChange(LNoThree$Rules;LNoThree$Council;I)I -/
def bk_7004 : Nat → Nat × List px_E := fun pc => match pc with
  | 0 => (3, [(0, .iconst 0, 1, 0, 0, 0, .inl (nI 0)), (1, .istore 4, 2, 4, 0, 0, .inl 0)])
  | 3 => (21, [(3, .iload 4, 2, 4, 0, 0, .inl 0), (5, .aload_n 0, 1, 0, 0, 0, .inl 0), (6, .getfield 12, 3, 7, 0, 2, .inl 0), (9, .getfield 37, 3, 11, 0, 0, .inl 0), (12, .if_icmp .ge 68, 3, 80, 0, 0, .inl 0), (15, .iload 4, 2, 4, 0, 0, .inl 0), (17, .iconst 1, 1, 0, 0, 0, .inl (nI 1)), (18, .iadd, 1, 0, 0, 0, .inl 0), (19, .istore 5, 2, 5, 0, 0, .inl 0)])
  | 21 => (59, [(21, .iload 5, 2, 5, 0, 0, .inl 0), (23, .aload_n 0, 1, 0, 0, 0, .inl 0), (24, .getfield 12, 3, 7, 0, 2, .inl 0), (27, .getfield 37, 3, 11, 0, 0, .inl 0), (30, .if_icmp .ge 44, 3, 74, 0, 0, .inl 0), (33, .aload_n 0, 1, 0, 0, 0, .inl 0), (34, .getfield 12, 3, 7, 0, 2, .inl 0), (37, .iload 4, 2, 4, 0, 0, .inl 0), (39, .iload 5, 2, 5, 0, 0, .inl 0), (41, .invokevirtual 41, 3, 11006, 3, 11, .inl 0), (44, .ifCond .eq 24, 3, 68, 0, 0, .inl 0), (47, .aload_n 0, 1, 0, 0, 0, .inl 0), (48, .iload 4, 2, 4, 0, 0, .inl 0), (50, .iload 5, 2, 5, 0, 0, .inl 0), (52, .invokevirtual 45, 3, 7006, 3, 7, .inl 0), (55, .iload_n 3, 1, 3, 0, 0, .inl 0), (56, .if_icmp .ge 12, 3, 68, 0, 0, .inl 0)])
  | 59 => (68, [(59, .bipush 100, 2, 0, 0, 0, .inl (nI 100)), (61, .iload 4, 2, 4, 0, 0, .inl 0), (63, .imul, 1, 0, 0, 0, .inl 0), (64, .iload 5, 2, 5, 0, 0, .inl 0), (66, .iadd, 1, 0, 0, 0, .inl 0), (67, .ireturn, 1, 0, 0, 0, .inl 0)])
  | 68 => (74, [(68, .iinc 5 1, 3, 5, 0, 0, .inl (nI 1)), (71, .goto (-50), 3, 21, 0, 0, .inl 0)])
  | 74 => (80, [(74, .iinc 4 1, 3, 4, 0, 0, .inl (nI 1)), (77, .goto (-74), 3, 3, 0, 0, .inl 0)])
  | 80 => (92, [(80, .aload_n 2, 1, 2, 0, 0, .inl 0), (81, .aload_n 1, 1, 1, 0, 0, .inl 0), (82, .aload_n 0, 1, 0, 0, 0, .inl 0), (83, .getfield 12, 3, 7, 0, 2, .inl 0), (86, .invokevirtual 49, 3, 2002, 3, 2, .inl 0), (89, .iconst 0, 1, 0, 0, 0, .inl (nI 0)), (90, .istore 4, 2, 4, 0, 0, .inl 0)])
  | 92 => (110, [(92, .iload 4, 2, 4, 0, 0, .inl 0), (94, .aload_n 0, 1, 0, 0, 0, .inl 0), (95, .getfield 12, 3, 7, 0, 2, .inl 0), (98, .getfield 37, 3, 11, 0, 0, .inl 0), (101, .if_icmp .ge 79, 3, 180, 0, 0, .inl 0), (104, .iload 4, 2, 4, 0, 0, .inl 0), (106, .iconst 1, 1, 0, 0, 0, .inl (nI 1)), (107, .iadd, 1, 0, 0, 0, .inl 0), (108, .istore 5, 2, 5, 0, 0, .inl 0)])
  | 110 => (148, [(110, .iload 5, 2, 5, 0, 0, .inl 0), (112, .aload_n 0, 1, 0, 0, 0, .inl 0), (113, .getfield 12, 3, 7, 0, 2, .inl 0), (116, .getfield 37, 3, 11, 0, 0, .inl 0), (119, .if_icmp .ge 55, 3, 174, 0, 0, .inl 0), (122, .aload_n 0, 1, 0, 0, 0, .inl 0), (123, .getfield 12, 3, 7, 0, 2, .inl 0), (126, .iload 4, 2, 4, 0, 0, .inl 0), (128, .iload 5, 2, 5, 0, 0, .inl 0), (130, .invokevirtual 41, 3, 11006, 3, 11, .inl 0), (133, .ifCond .ne 35, 3, 168, 0, 0, .inl 0), (136, .aload_n 0, 1, 0, 0, 0, .inl 0), (137, .iload 4, 2, 4, 0, 0, .inl 0), (139, .iload 5, 2, 5, 0, 0, .inl 0), (141, .invokevirtual 55, 3, 7007, 3, 7, .inl 0), (144, .iload_n 3, 1, 3, 0, 0, .inl 0), (145, .if_icmp .lt 23, 3, 168, 0, 0, .inl 0)])
  | 148 => (168, [(148, .aload_n 2, 1, 2, 0, 0, .inl 0), (149, .iload 4, 2, 4, 0, 0, .inl 0), (151, .iload 5, 2, 5, 0, 0, .inl 0), (153, .invokevirtual 58, 3, 2005, 3, 2, .inl 0), (156, .ifCond .ne 12, 3, 168, 0, 0, .inl 0), (159, .bipush 100, 2, 0, 0, 0, .inl (nI 100)), (161, .iload 4, 2, 4, 0, 0, .inl 0), (163, .imul, 1, 0, 0, 0, .inl 0), (164, .iload 5, 2, 5, 0, 0, .inl 0), (166, .iadd, 1, 0, 0, 0, .inl 0), (167, .ireturn, 1, 0, 0, 0, .inl 0)])
  | 168 => (174, [(168, .iinc 5 1, 3, 5, 0, 0, .inl (nI 1)), (171, .goto (-61), 3, 110, 0, 0, .inl 0)])
  | 174 => (180, [(174, .iinc 4 1, 3, 4, 0, 0, .inl (nI 1)), (177, .goto (-85), 3, 92, 0, 0, .inl 0)])
  | 180 => (182, [(180, .iconst (-1), 1, 0, 0, 0, .inl (-1)), (181, .ireturn, 1, 0, 0, 0, .inl 0)])
  | n => (n, [])
theorem ck_7004 : ∀ pc, px_cks pn_i7004 (bk_7004 pc).1 pc (bk_7004 pc).2 = true := by
  intro pc
  unfold bk_7004
  split <;> first | decide +kernel | simp [px_cks]
/-- NoThree$Market.leastCostOfRest(LNoThree$Rules;LNoThree$Council;)I -/
def bk_7005 : Nat → Nat × List px_E := fun pc => match pc with
  | 0 => (18, [(0, .aload_n 2, 1, 2, 0, 0, .inl 0), (1, .aload_n 1, 1, 1, 0, 0, .inl 0), (2, .aload_n 0, 1, 0, 0, 0, .inl 0), (3, .getfield 12, 3, 7, 0, 2, .inl 0), (6, .invokevirtual 49, 3, 2002, 3, 2, .inl 0), (9, .iconst (-1), 1, 0, 0, 0, .inl (-1)), (10, .istore_n 3, 1, 3, 0, 0, .inl 0), (11, .bipush 99, 2, 0, 0, 0, .inl (nI 99)), (13, .istore 4, 2, 4, 0, 0, .inl 0), (15, .iconst 0, 1, 0, 0, 0, .inl (nI 0)), (16, .istore 5, 2, 5, 0, 0, .inl 0)])
  | 18 => (36, [(18, .iload 5, 2, 5, 0, 0, .inl 0), (20, .aload_n 0, 1, 0, 0, 0, .inl 0), (21, .getfield 12, 3, 7, 0, 2, .inl 0), (24, .getfield 37, 3, 11, 0, 0, .inl 0), (27, .if_icmp .ge 97, 3, 124, 0, 0, .inl 0), (30, .iload 5, 2, 5, 0, 0, .inl 0), (32, .iconst 1, 1, 0, 0, 0, .inl (nI 1)), (33, .iadd, 1, 0, 0, 0, .inl 0), (34, .istore 6, 2, 6, 0, 0, .inl 0)])
  | 36 => (62, [(36, .iload 6, 2, 6, 0, 0, .inl 0), (38, .aload_n 0, 1, 0, 0, 0, .inl 0), (39, .getfield 12, 3, 7, 0, 2, .inl 0), (42, .getfield 37, 3, 11, 0, 0, .inl 0), (45, .if_icmp .ge 73, 3, 118, 0, 0, .inl 0), (48, .aload_n 0, 1, 0, 0, 0, .inl 0), (49, .getfield 12, 3, 7, 0, 2, .inl 0), (52, .iload 5, 2, 5, 0, 0, .inl 0), (54, .iload 6, 2, 6, 0, 0, .inl 0), (56, .invokevirtual 41, 3, 11006, 3, 11, .inl 0), (59, .ifCond .eq 21, 3, 80, 0, 0, .inl 0)])
  | 62 => (80, [(62, .iload 4, 2, 4, 0, 0, .inl 0), (64, .aload_n 0, 1, 0, 0, 0, .inl 0), (65, .iload 5, 2, 5, 0, 0, .inl 0), (67, .iload 6, 2, 6, 0, 0, .inl 0), (69, .invokevirtual 45, 3, 7006, 3, 7, .inl 0), (72, .invokestatic 61, 3, 20001, 2, 2, .inl 0), (75, .istore 4, 2, 4, 0, 0, .inl 0), (77, .goto 35, 3, 112, 0, 0, .inl 0)])
  | 80 => (103, [(80, .aload_n 0, 1, 0, 0, 0, .inl 0), (81, .iload 5, 2, 5, 0, 0, .inl 0), (83, .iload 6, 2, 6, 0, 0, .inl 0), (85, .invokevirtual 55, 3, 7007, 3, 7, .inl 0), (88, .iload_n 3, 1, 3, 0, 0, .inl 0), (89, .if_icmp .le 23, 3, 112, 0, 0, .inl 0), (92, .aload_n 2, 1, 2, 0, 0, .inl 0), (93, .iload 5, 2, 5, 0, 0, .inl 0), (95, .iload 6, 2, 6, 0, 0, .inl 0), (97, .invokevirtual 58, 3, 2005, 3, 2, .inl 0), (100, .ifCond .ne 12, 3, 112, 0, 0, .inl 0)])
  | 103 => (112, [(103, .aload_n 0, 1, 0, 0, 0, .inl 0), (104, .iload 5, 2, 5, 0, 0, .inl 0), (106, .iload 6, 2, 6, 0, 0, .inl 0), (108, .invokevirtual 55, 3, 7007, 3, 7, .inl 0), (111, .istore_n 3, 1, 3, 0, 0, .inl 0)])
  | 112 => (118, [(112, .iinc 6 1, 3, 6, 0, 0, .inl (nI 1)), (115, .goto (-79), 3, 36, 0, 0, .inl 0)])
  | 118 => (124, [(118, .iinc 5 1, 3, 5, 0, 0, .inl (nI 1)), (121, .goto (-103), 3, 18, 0, 0, .inl 0)])
  | 124 => (136, [(124, .iload_n 3, 1, 3, 0, 0, .inl 0), (125, .iload 4, 2, 4, 0, 0, .inl 0), (127, .if_icmp .ge 9, 3, 136, 0, 0, .inl 0), (130, .iload_n 3, 1, 3, 0, 0, .inl 0), (131, .iconst 1, 1, 0, 0, 0, .inl (nI 1)), (132, .iadd, 1, 0, 0, 0, .inl 0), (133, .goto 4, 3, 137, 0, 0, .inl 0)])
  | 136 => (137, [(136, .iconst (-1), 1, 0, 0, 0, .inl (-1))])
  | 137 => (138, [(137, .ireturn, 1, 0, 0, 0, .inl 0)])
  | n => (n, [])
theorem ck_7005 : ∀ pc, px_cks pn_i7005 (bk_7005 pc).1 pc (bk_7005 pc).2 = true := by
  intro pc
  unfold bk_7005
  split <;> first | decide +kernel | simp [px_cks]
/-- NoThree$Market.lossByWall(II)I -/
def bk_7006 : Nat → Nat × List px_E := fun pc => match pc with
  | 0 => (11, [(0, .aload_n 0, 1, 0, 0, 0, .inl 0), (1, .getfield 18, 3, 7, 1, 2, .inl 0), (4, .aload_n 0, 1, 0, 0, 0, .inl 0), (5, .getfield 12, 3, 7, 0, 2, .inl 0), (8, .invokevirtual 21, 3, 11007, 2, 11, .inl 0)])
  | 11 => (20, [(11, .aload_n 0, 1, 0, 0, 0, .inl 0), (12, .getfield 18, 3, 7, 1, 2, .inl 0), (15, .iload_n 1, 1, 1, 0, 0, .inl 0), (16, .iload_n 2, 1, 2, 0, 0, .inl 0), (17, .invokevirtual 66, 3, 11010, 3, 11, .inl 0)])
  | 20 => (62, [(20, .aload_n 0, 1, 0, 0, 0, .inl 0), (21, .aload_n 0, 1, 0, 0, 0, .inl 0), (22, .getfield 12, 3, 7, 0, 2, .inl 0), (25, .iload_n 1, 1, 1, 0, 0, .inl 0), (26, .invokevirtual 70, 3, 7003, 3, 7, .inl 0), (29, .aload_n 0, 1, 0, 0, 0, .inl 0), (30, .aload_n 0, 1, 0, 0, 0, .inl 0), (31, .getfield 18, 3, 7, 1, 2, .inl 0), (34, .iload_n 1, 1, 1, 0, 0, .inl 0), (35, .invokevirtual 70, 3, 7003, 3, 7, .inl 0), (38, .isub, 1, 0, 0, 0, .inl 0), (39, .aload_n 0, 1, 0, 0, 0, .inl 0), (40, .aload_n 0, 1, 0, 0, 0, .inl 0), (41, .getfield 12, 3, 7, 0, 2, .inl 0), (44, .iload_n 2, 1, 2, 0, 0, .inl 0), (45, .invokevirtual 70, 3, 7003, 3, 7, .inl 0), (48, .aload_n 0, 1, 0, 0, 0, .inl 0), (49, .aload_n 0, 1, 0, 0, 0, .inl 0), (50, .getfield 18, 3, 7, 1, 2, .inl 0), (53, .iload_n 2, 1, 2, 0, 0, .inl 0), (54, .invokevirtual 70, 3, 7003, 3, 7, .inl 0), (57, .isub, 1, 0, 0, 0, .inl 0), (58, .invokestatic 61, 3, 20001, 2, 2, .inl 0), (61, .ireturn, 1, 0, 0, 0, .inl 0)])
  | n => (n, [])
theorem ck_7006 : ∀ pc, px_cks pn_i7006 (bk_7006 pc).1 pc (bk_7006 pc).2 = true := by
  intro pc
  unfold bk_7006
  split <;> first | decide +kernel | simp [px_cks]
/-- NoThree$Market.lureToJoin(II)I -/
def bk_7007 : Nat → Nat × List px_E := fun pc => match pc with
  | 0 => (20, [(0, .aload_n 0, 1, 0, 0, 0, .inl 0), (1, .getfield 18, 3, 7, 1, 2, .inl 0), (4, .aload_n 0, 1, 0, 0, 0, .inl 0), (5, .getfield 12, 3, 7, 0, 2, .inl 0), (8, .invokevirtual 21, 3, 11007, 2, 11, .inl 0), (11, .aload_n 0, 1, 0, 0, 0, .inl 0), (12, .getfield 18, 3, 7, 1, 2, .inl 0), (15, .iload_n 1, 1, 1, 0, 0, .inl 0), (16, .iload_n 2, 1, 2, 0, 0, .inl 0), (17, .invokevirtual 74, 3, 11009, 3, 11, .inl 0)])
  | 20 => (40, [(20, .aload_n 0, 1, 0, 0, 0, .inl 0), (21, .aload_n 0, 1, 0, 0, 0, .inl 0), (22, .getfield 18, 3, 7, 1, 2, .inl 0), (25, .iload_n 1, 1, 1, 0, 0, .inl 0), (26, .invokevirtual 70, 3, 7003, 3, 7, .inl 0), (29, .aload_n 0, 1, 0, 0, 0, .inl 0), (30, .aload_n 0, 1, 0, 0, 0, .inl 0), (31, .getfield 12, 3, 7, 0, 2, .inl 0), (34, .iload_n 1, 1, 1, 0, 0, .inl 0), (35, .invokevirtual 70, 3, 7003, 3, 7, .inl 0), (38, .isub, 1, 0, 0, 0, .inl 0), (39, .istore_n 3, 1, 3, 0, 0, .inl 0)])
  | 40 => (61, [(40, .aload_n 0, 1, 0, 0, 0, .inl 0), (41, .aload_n 0, 1, 0, 0, 0, .inl 0), (42, .getfield 18, 3, 7, 1, 2, .inl 0), (45, .iload_n 2, 1, 2, 0, 0, .inl 0), (46, .invokevirtual 70, 3, 7003, 3, 7, .inl 0), (49, .aload_n 0, 1, 0, 0, 0, .inl 0), (50, .aload_n 0, 1, 0, 0, 0, .inl 0), (51, .getfield 12, 3, 7, 0, 2, .inl 0), (54, .iload_n 2, 1, 2, 0, 0, .inl 0), (55, .invokevirtual 70, 3, 7003, 3, 7, .inl 0), (58, .isub, 1, 0, 0, 0, .inl 0), (59, .istore 4, 2, 4, 0, 0, .inl 0)])
  | 61 => (73, [(61, .iload_n 3, 1, 3, 0, 0, .inl 0), (62, .iload 4, 2, 4, 0, 0, .inl 0), (64, .if_icmp .ne 9, 3, 73, 0, 0, .inl 0), (67, .iload_n 3, 1, 3, 0, 0, .inl 0), (68, .iconst 1, 1, 0, 0, 0, .inl (nI 1)), (69, .isub, 1, 0, 0, 0, .inl 0), (70, .goto 9, 3, 79, 0, 0, .inl 0)])
  | 73 => (79, [(73, .iload_n 3, 1, 3, 0, 0, .inl 0), (74, .iload 4, 2, 4, 0, 0, .inl 0), (76, .invokestatic 61, 3, 20001, 2, 2, .inl 0)])
  | 79 => (80, [(79, .ireturn, 1, 0, 0, 0, .inl 0)])
  | n => (n, [])
theorem ck_7007 : ∀ pc, px_cks pn_i7007 (bk_7007 pc).1 pc (bk_7007 pc).2 = true := by
  intro pc
  unfold bk_7007
  split <;> first | decide +kernel | simp [px_cks]
/-- NoThree$Painter.fewest(LNoThree$Town;I)I -/
def bk_8002 : Nat → Nat × List px_E := fun pc => match pc with
  | 0 => (11, [(0, .aload_n 0, 1, 0, 0, 0, .inl 0), (1, .aload_n 1, 1, 1, 0, 0, .inl 0), (2, .putfield 21, 3, 8, 2, 2, .inl 0), (5, .iload_n 2, 1, 2, 0, 0, .inl 0), (6, .ifCond .ne 5, 3, 11, 0, 0, .inl 0), (9, .iconst 0, 1, 0, 0, 0, .inl (nI 0)), (10, .ireturn, 1, 0, 0, 0, .inl 0)])
  | 11 => (26, [(11, .aload_n 0, 1, 0, 0, 0, .inl 0), (12, .getfield 21, 3, 8, 2, 2, .inl 0), (15, .iload_n 2, 1, 2, 0, 0, .inl 0), (16, .invokevirtual 25, 3, 11016, 2, 11, .inl 0), (19, .iload_n 2, 1, 2, 0, 0, .inl 0), (20, .iand, 1, 0, 0, 0, .inl 0), (21, .ifCond .ne 5, 3, 26, 0, 0, .inl 0), (24, .iconst 1, 1, 0, 0, 0, .inl (nI 1)), (25, .ireturn, 1, 0, 0, 0, .inl 0)])
  | 26 => (38, [(26, .aload_n 0, 1, 0, 0, 0, .inl 0), (27, .getfield 21, 3, 8, 2, 2, .inl 0), (30, .iload_n 2, 1, 2, 0, 0, .inl 0), (31, .invokevirtual 29, 3, 11031, 2, 11, .inl 0), (34, .iconst (-1), 1, 0, 0, 0, .inl (-1)), (35, .if_icmp .eq 5, 3, 40, 0, 0, .inl 0)])
  | 38 => (40, [(38, .iconst 2, 1, 0, 0, 0, .inl (nI 2)), (39, .ireturn, 1, 0, 0, 0, .inl 0)])
  | 40 => (42, [(40, .iconst 3, 1, 0, 0, 0, .inl (nI 3)), (41, .istore_n 3, 1, 3, 0, 0, .inl 0)])
  | 42 => (72, [(42, .iload_n 3, 1, 3, 0, 0, .inl 0), (43, .bipush 11, 2, 0, 0, 0, .inl (nI 11)), (45, .if_icmp .ge 35, 3, 80, 0, 0, .inl 0), (48, .aload_n 0, 1, 0, 0, 0, .inl 0), (49, .getfield 9, 3, 8, 0, 2, .inl 0), (52, .iconst 0, 1, 0, 0, 0, .inl (nI 0)), (53, .invokestatic 32, 3, 22000, 2, 0, .inl 0), (56, .aload_n 0, 1, 0, 0, 0, .inl 0), (57, .aload_n 0, 1, 0, 0, 0, .inl 0), (58, .iload_n 2, 1, 2, 0, 0, .inl 0), (59, .iload_n 3, 1, 3, 0, 0, .inl 0), (60, .invokevirtual 38, 3, 8003, 3, 8, .inl 0), (63, .iconst 0, 1, 0, 0, 0, .inl (nI 0)), (64, .iload_n 3, 1, 3, 0, 0, .inl 0), (65, .iconst 0, 1, 0, 0, 0, .inl (nI 0)), (66, .invokevirtual 42, 3, 8004, 5, 8, .inl 0), (69, .ifCond .eq 5, 3, 74, 0, 0, .inl 0)])
  | 72 => (74, [(72, .iload_n 3, 1, 3, 0, 0, .inl 0), (73, .ireturn, 1, 0, 0, 0, .inl 0)])
  | 74 => (80, [(74, .iinc 3 1, 3, 3, 0, 0, .inl (nI 1)), (77, .goto (-35), 3, 42, 0, 0, .inl 0)])
  | 80 => (83, [(80, .bipush 11, 2, 0, 0, 0, .inl (nI 11)), (82, .ireturn, 1, 0, 0, 0, .inl 0)])
  | n => (n, [])
theorem ck_8002 : ∀ pc, px_cks pn_i8002 (bk_8002 pc).1 pc (bk_8002 pc).2 = true := by
  intro pc
  unfold bk_8002
  split <;> first | decide +kernel | simp [px_cks]
/-- NoThree$Painter.hardToPaint(II)I -/
def bk_8003 : Nat → Nat × List px_E := fun pc => match pc with
  | 0 => (5, [(0, .iload_n 1, 1, 1, 0, 0, .inl 0), (1, .istore_n 3, 1, 3, 0, 0, .inl 0), (2, .iconst 0, 1, 0, 0, 0, .inl (nI 0)), (3, .istore 4, 2, 4, 0, 0, .inl 0)])
  | 5 => (18, [(5, .iload 4, 2, 4, 0, 0, .inl 0), (7, .bipush 11, 2, 0, 0, 0, .inl (nI 11)), (9, .if_icmp .ge 70, 3, 79, 0, 0, .inl 0), (12, .iload_n 3, 1, 3, 0, 0, .inl 0), (13, .istore 5, 2, 5, 0, 0, .inl 0), (15, .iconst 0, 1, 0, 0, 0, .inl (nI 0)), (16, .istore 6, 2, 6, 0, 0, .inl 0)])
  | 18 => (58, [(18, .iload 6, 2, 6, 0, 0, .inl 0), (20, .aload_n 0, 1, 0, 0, 0, .inl 0), (21, .getfield 21, 3, 8, 2, 2, .inl 0), (24, .getfield 46, 3, 11, 0, 0, .inl 0), (27, .if_icmp .ge 37, 3, 64, 0, 0, .inl 0), (30, .aload_n 0, 1, 0, 0, 0, .inl 0), (31, .getfield 21, 3, 8, 2, 2, .inl 0), (34, .getfield 50, 3, 11, 1, 2, .inl 0), (37, .iload 6, 2, 6, 0, 0, .inl 0), (39, .iaload, 1, 0, 0, 0, .inl 0), (40, .iload_n 3, 1, 3, 0, 0, .inl 0), (41, .iand, 1, 0, 0, 0, .inl 0), (42, .invokestatic 53, 3, 21000, 1, 0, .inl 0), (45, .iload_n 2, 1, 2, 0, 0, .inl 0), (46, .if_icmp .ge 12, 3, 58, 0, 0, .inl 0), (49, .iload_n 3, 1, 3, 0, 0, .inl 0), (50, .iconst 1, 1, 0, 0, 0, .inl (nI 1)), (51, .iload 6, 2, 6, 0, 0, .inl 0), (53, .ishl, 1, 0, 0, 0, .inl 0), (54, .iconst (-1), 1, 0, 0, 0, .inl (-1)), (55, .ixor, 1, 0, 0, 0, .inl 0), (56, .iand, 1, 0, 0, 0, .inl 0), (57, .istore_n 3, 1, 3, 0, 0, .inl 0)])
  | 58 => (64, [(58, .iinc 6 1, 3, 6, 0, 0, .inl (nI 1)), (61, .goto (-43), 3, 18, 0, 0, .inl 0)])
  | 64 => (73, [(64, .iload_n 3, 1, 3, 0, 0, .inl 0), (65, .iload 5, 2, 5, 0, 0, .inl 0), (67, .if_icmp .ne 6, 3, 73, 0, 0, .inl 0), (70, .goto 9, 3, 79, 0, 0, .inl 0)])
  | 73 => (79, [(73, .iinc 4 1, 3, 4, 0, 0, .inl (nI 1)), (76, .goto (-71), 3, 5, 0, 0, .inl 0)])
  | 79 => (81, [(79, .iload_n 3, 1, 3, 0, 0, .inl 0), (80, .ireturn, 1, 0, 0, 0, .inl 0)])
  | n => (n, [])
theorem ck_8003 : ∀ pc, px_cks pn_i8003 (bk_8003 pc).1 pc (bk_8003 pc).2 = true := by
  intro pc
  unfold bk_8003
  split <;> first | decide +kernel | simp [px_cks]
/-- NoThree$Painter.paintAll(IIII)Z -/
def bk_8004 : Nat → Nat × List px_E := fun pc => match pc with
  | 0 => (6, [(0, .iload_n 1, 1, 1, 0, 0, .inl 0), (1, .ifCond .ne 5, 3, 6, 0, 0, .inl 0), (4, .iconst 1, 1, 0, 0, 0, .inl (nI 1)), (5, .ireturn, 1, 0, 0, 0, .inl 0)])
  | 6 => (27, [(6, .aload_n 0, 1, 0, 0, 0, .inl 0), (7, .iload_n 1, 1, 1, 0, 0, .inl 0), (8, .iload_n 2, 1, 2, 0, 0, .inl 0), (9, .invokevirtual 58, 3, 8005, 3, 8, .inl 0), (12, .istore 5, 2, 5, 0, 0, .inl 0), (14, .iload 5, 2, 5, 0, 0, .inl 0), (16, .iconst (-1), 1, 0, 0, 0, .inl (-1)), (17, .if_icmp .eq 10, 3, 27, 0, 0, .inl 0), (20, .iload 4, 2, 4, 0, 0, .inl 0), (22, .bipush 11, 2, 0, 0, 0, .inl (nI 11)), (24, .if_icmp .le 5, 3, 29, 0, 0, .inl 0)])
  | 27 => (29, [(27, .iconst 0, 1, 0, 0, 0, .inl (nI 0)), (28, .ireturn, 1, 0, 0, 0, .inl 0)])
  | 29 => (39, [(29, .iload_n 1, 1, 1, 0, 0, .inl 0), (30, .iconst 1, 1, 0, 0, 0, .inl (nI 1)), (31, .iload 5, 2, 5, 0, 0, .inl 0), (33, .ishl, 1, 0, 0, 0, .inl 0), (34, .iconst (-1), 1, 0, 0, 0, .inl (-1)), (35, .ixor, 1, 0, 0, 0, .inl 0), (36, .iand, 1, 0, 0, 0, .inl 0), (37, .istore 6, 2, 6, 0, 0, .inl 0)])
  | 39 => (42, [(39, .iconst 0, 1, 0, 0, 0, .inl (nI 0)), (40, .istore 7, 2, 7, 0, 0, .inl 0)])
  | 42 => (78, [(42, .iload 7, 2, 7, 0, 0, .inl 0), (44, .iload_n 2, 1, 2, 0, 0, .inl 0), (45, .if_icmp .gt 97, 3, 142, 0, 0, .inl 0), (48, .iload 7, 2, 7, 0, 0, .inl 0), (50, .iload_n 3, 1, 3, 0, 0, .inl 0), (51, .if_icmp .ge 91, 3, 142, 0, 0, .inl 0), (54, .aload_n 0, 1, 0, 0, 0, .inl 0), (55, .getfield 9, 3, 8, 0, 2, .inl 0), (58, .iload 7, 2, 7, 0, 0, .inl 0), (60, .iaload, 1, 0, 0, 0, .inl 0), (61, .aload_n 0, 1, 0, 0, 0, .inl 0), (62, .getfield 21, 3, 8, 2, 2, .inl 0), (65, .getfield 50, 3, 11, 1, 2, .inl 0), (68, .iload 5, 2, 5, 0, 0, .inl 0), (70, .iaload, 1, 0, 0, 0, .inl 0), (71, .iand, 1, 0, 0, 0, .inl 0), (72, .ifCond .eq 6, 3, 78, 0, 0, .inl 0), (75, .goto 61, 3, 136, 0, 0, .inl 0)])
  | 78 => (92, [(78, .aload_n 0, 1, 0, 0, 0, .inl 0), (79, .getfield 9, 3, 8, 0, 2, .inl 0), (82, .iload 7, 2, 7, 0, 0, .inl 0), (84, .dup2, 1, 0, 0, 0, .inl 0), (85, .iaload, 1, 0, 0, 0, .inl 0), (86, .iconst 1, 1, 0, 0, 0, .inl (nI 1)), (87, .iload 5, 2, 5, 0, 0, .inl 0), (89, .ishl, 1, 0, 0, 0, .inl 0), (90, .ior, 1, 0, 0, 0, .inl 0), (91, .iastore, 1, 0, 0, 0, .inl 0)])
  | 92 => (129, [(92, .aload_n 0, 1, 0, 0, 0, .inl 0), (93, .iload 6, 2, 6, 0, 0, .inl 0), (95, .iload_n 2, 1, 2, 0, 0, .inl 0), (96, .iload 7, 2, 7, 0, 0, .inl 0), (98, .iconst 1, 1, 0, 0, 0, .inl (nI 1)), (99, .iadd, 1, 0, 0, 0, .inl 0), (100, .invokestatic 61, 3, 20000, 2, 1, .inl 0), (103, .iload_n 3, 1, 3, 0, 0, .inl 0), (104, .iload 4, 2, 4, 0, 0, .inl 0), (106, .iconst 1, 1, 0, 0, 0, .inl (nI 1)), (107, .iadd, 1, 0, 0, 0, .inl 0), (108, .invokevirtual 42, 3, 8004, 5, 8, .inl 0), (111, .istore 8, 2, 8, 0, 0, .inl 0), (113, .aload_n 0, 1, 0, 0, 0, .inl 0), (114, .getfield 9, 3, 8, 0, 2, .inl 0), (117, .iload 7, 2, 7, 0, 0, .inl 0), (119, .dup2, 1, 0, 0, 0, .inl 0), (120, .iaload, 1, 0, 0, 0, .inl 0), (121, .iconst 1, 1, 0, 0, 0, .inl (nI 1)), (122, .iload 5, 2, 5, 0, 0, .inl 0), (124, .ishl, 1, 0, 0, 0, .inl 0), (125, .iconst (-1), 1, 0, 0, 0, .inl (-1)), (126, .ixor, 1, 0, 0, 0, .inl 0), (127, .iand, 1, 0, 0, 0, .inl 0), (128, .iastore, 1, 0, 0, 0, .inl 0)])
  | 129 => (136, [(129, .iload 8, 2, 8, 0, 0, .inl 0), (131, .ifCond .eq 5, 3, 136, 0, 0, .inl 0), (134, .iconst 1, 1, 0, 0, 0, .inl (nI 1)), (135, .ireturn, 1, 0, 0, 0, .inl 0)])
  | 136 => (142, [(136, .iinc 7 1, 3, 7, 0, 0, .inl (nI 1)), (139, .goto (-97), 3, 42, 0, 0, .inl 0)])
  | 142 => (144, [(142, .iconst 0, 1, 0, 0, 0, .inl (nI 0)), (143, .ireturn, 1, 0, 0, 0, .inl 0)])
  | n => (n, [])
theorem ck_8004 : ∀ pc, px_cks pn_i8004 (bk_8004 pc).1 pc (bk_8004 pc).2 = true := by
  intro pc
  unfold bk_8004
  split <;> first | decide +kernel | simp [px_cks]
/-- NoThree$Painter.mostBound(II)I -/
def bk_8005 : Nat → Nat × List px_E := fun pc => match pc with
  | 0 => (8, [(0, .iconst (-1), 1, 0, 0, 0, .inl (-1)), (1, .istore_n 3, 1, 3, 0, 0, .inl 0), (2, .iconst (-1), 1, 0, 0, 0, .inl (-1)), (3, .istore 4, 2, 4, 0, 0, .inl 0), (5, .iconst 0, 1, 0, 0, 0, .inl (nI 0)), (6, .istore 5, 2, 5, 0, 0, .inl 0)])
  | 8 => (32, [(8, .iload 5, 2, 5, 0, 0, .inl 0), (10, .aload_n 0, 1, 0, 0, 0, .inl 0), (11, .getfield 21, 3, 8, 2, 2, .inl 0), (14, .getfield 46, 3, 11, 0, 0, .inl 0), (17, .if_icmp .ge 84, 3, 101, 0, 0, .inl 0), (20, .iload_n 1, 1, 1, 0, 0, .inl 0), (21, .iconst 1, 1, 0, 0, 0, .inl (nI 1)), (22, .iload 5, 2, 5, 0, 0, .inl 0), (24, .ishl, 1, 0, 0, 0, .inl 0), (25, .iand, 1, 0, 0, 0, .inl 0), (26, .ifCond .ne 6, 3, 32, 0, 0, .inl 0), (29, .goto 66, 3, 95, 0, 0, .inl 0)])
  | 32 => (38, [(32, .iconst 0, 1, 0, 0, 0, .inl (nI 0)), (33, .istore 6, 2, 6, 0, 0, .inl 0), (35, .iconst 0, 1, 0, 0, 0, .inl (nI 0)), (36, .istore 7, 2, 7, 0, 0, .inl 0)])
  | 38 => (75, [(38, .iload 7, 2, 7, 0, 0, .inl 0), (40, .iload_n 2, 1, 2, 0, 0, .inl 0), (41, .if_icmp .ge 40, 3, 81, 0, 0, .inl 0), (44, .iload 7, 2, 7, 0, 0, .inl 0), (46, .bipush 11, 2, 0, 0, 0, .inl (nI 11)), (48, .if_icmp .ge 33, 3, 81, 0, 0, .inl 0), (51, .aload_n 0, 1, 0, 0, 0, .inl 0), (52, .getfield 9, 3, 8, 0, 2, .inl 0), (55, .iload 7, 2, 7, 0, 0, .inl 0), (57, .iaload, 1, 0, 0, 0, .inl 0), (58, .aload_n 0, 1, 0, 0, 0, .inl 0), (59, .getfield 21, 3, 8, 2, 2, .inl 0), (62, .getfield 50, 3, 11, 1, 2, .inl 0), (65, .iload 5, 2, 5, 0, 0, .inl 0), (67, .iaload, 1, 0, 0, 0, .inl 0), (68, .iand, 1, 0, 0, 0, .inl 0), (69, .ifCond .eq 6, 3, 75, 0, 0, .inl 0), (72, .iinc 6 1, 3, 6, 0, 0, .inl (nI 1))])
  | 75 => (81, [(75, .iinc 7 1, 3, 7, 0, 0, .inl (nI 1)), (78, .goto (-40), 3, 38, 0, 0, .inl 0)])
  | 81 => (95, [(81, .iload 6, 2, 6, 0, 0, .inl 0), (83, .iload 4, 2, 4, 0, 0, .inl 0), (85, .if_icmp .le 10, 3, 95, 0, 0, .inl 0), (88, .iload 6, 2, 6, 0, 0, .inl 0), (90, .istore 4, 2, 4, 0, 0, .inl 0), (92, .iload 5, 2, 5, 0, 0, .inl 0), (94, .istore_n 3, 1, 3, 0, 0, .inl 0)])
  | 95 => (101, [(95, .iinc 5 1, 3, 5, 0, 0, .inl (nI 1)), (98, .goto (-90), 3, 8, 0, 0, .inl 0)])
  | 101 => (103, [(101, .iload_n 3, 1, 3, 0, 0, .inl 0), (102, .ireturn, 1, 0, 0, 0, .inl 0)])
  | n => (n, [])
theorem ck_8005 : ∀ pc, px_cks pn_i8005 (bk_8005 pc).1 pc (bk_8005 pc).2 = true := by
  intro pc
  unfold bk_8005
  split <;> first | decide +kernel | simp [px_cks]
/-- NoThree$Painter.firstShade(LNoThree$Town;I)I -/
def bk_8006 : Nat → Nat × List px_E := fun pc => match pc with
  | 0 => (18, [(0, .aload_n 0, 1, 0, 0, 0, .inl 0), (1, .aload_n 1, 1, 1, 0, 0, .inl 0), (2, .aload_n 1, 1, 1, 0, 0, .inl 0), (3, .invokevirtual 66, 3, 11004, 1, 11, .inl 0), (6, .invokevirtual 70, 3, 8002, 3, 8, .inl 0), (9, .istore_n 3, 1, 3, 0, 0, .inl 0), (10, .aload_n 0, 1, 0, 0, 0, .inl 0), (11, .getfield 9, 3, 8, 0, 2, .inl 0), (14, .iconst 0, 1, 0, 0, 0, .inl (nI 0)), (15, .invokestatic 32, 3, 22000, 2, 0, .inl 0)])
  | 18 => (28, [(18, .aload_n 0, 1, 0, 0, 0, .inl 0), (19, .iconst 0, 1, 0, 0, 0, .inl (nI 0)), (20, .iload_n 3, 1, 3, 0, 0, .inl 0), (21, .invokevirtual 74, 3, 8007, 3, 8, .inl 0), (24, .pop, 1, 0, 0, 0, .inl 0), (25, .iconst 0, 1, 0, 0, 0, .inl (nI 0)), (26, .istore 4, 2, 4, 0, 0, .inl 0)])
  | 28 => (51, [(28, .iload 4, 2, 4, 0, 0, .inl 0), (30, .iload_n 3, 1, 3, 0, 0, .inl 0), (31, .if_icmp .ge 26, 3, 57, 0, 0, .inl 0), (34, .aload_n 0, 1, 0, 0, 0, .inl 0), (35, .getfield 9, 3, 8, 0, 2, .inl 0), (38, .iload 4, 2, 4, 0, 0, .inl 0), (40, .iaload, 1, 0, 0, 0, .inl 0), (41, .iconst 1, 1, 0, 0, 0, .inl (nI 1)), (42, .iload_n 2, 1, 2, 0, 0, .inl 0), (43, .ishl, 1, 0, 0, 0, .inl 0), (44, .iand, 1, 0, 0, 0, .inl 0), (45, .ifCond .eq 6, 3, 51, 0, 0, .inl 0), (48, .iload 4, 2, 4, 0, 0, .inl 0), (50, .ireturn, 1, 0, 0, 0, .inl 0)])
  | 51 => (57, [(51, .iinc 4 1, 3, 4, 0, 0, .inl (nI 1)), (54, .goto (-26), 3, 28, 0, 0, .inl 0)])
  | 57 => (59, [(57, .iconst (-1), 1, 0, 0, 0, .inl (-1)), (58, .ireturn, 1, 0, 0, 0, .inl 0)])
  | n => (n, [])
theorem ck_8006 : ∀ pc, px_cks pn_i8006 (bk_8006 pc).1 pc (bk_8006 pc).2 = true := by
  intro pc
  unfold bk_8006
  split <;> first | decide +kernel | simp [px_cks]
/-- NoThree$Painter.paintFrom(II)Z -/
def bk_8007 : Nat → Nat × List px_E := fun pc => match pc with
  | 0 => (13, [(0, .iload_n 1, 1, 1, 0, 0, .inl 0), (1, .aload_n 0, 1, 0, 0, 0, .inl 0), (2, .getfield 21, 3, 8, 2, 2, .inl 0), (5, .getfield 46, 3, 11, 0, 0, .inl 0), (8, .if_icmp .lt 5, 3, 13, 0, 0, .inl 0), (11, .iconst 1, 1, 0, 0, 0, .inl (nI 1)), (12, .ireturn, 1, 0, 0, 0, .inl 0)])
  | 13 => (15, [(13, .iconst 0, 1, 0, 0, 0, .inl (nI 0)), (14, .istore_n 3, 1, 3, 0, 0, .inl 0)])
  | 15 => (48, [(15, .iload_n 3, 1, 3, 0, 0, .inl 0), (16, .iload_n 2, 1, 2, 0, 0, .inl 0), (17, .if_icmp .ge 100, 3, 117, 0, 0, .inl 0), (20, .iload_n 3, 1, 3, 0, 0, .inl 0), (21, .bipush 11, 2, 0, 0, 0, .inl (nI 11)), (23, .if_icmp .ge 94, 3, 117, 0, 0, .inl 0), (26, .aload_n 0, 1, 0, 0, 0, .inl 0), (27, .getfield 9, 3, 8, 0, 2, .inl 0), (30, .iload_n 3, 1, 3, 0, 0, .inl 0), (31, .iaload, 1, 0, 0, 0, .inl 0), (32, .aload_n 0, 1, 0, 0, 0, .inl 0), (33, .getfield 21, 3, 8, 2, 2, .inl 0), (36, .getfield 50, 3, 11, 1, 2, .inl 0), (39, .iload_n 1, 1, 1, 0, 0, .inl 0), (40, .iaload, 1, 0, 0, 0, .inl 0), (41, .iand, 1, 0, 0, 0, .inl 0), (42, .ifCond .eq 6, 3, 48, 0, 0, .inl 0), (45, .goto 66, 3, 111, 0, 0, .inl 0)])
  | 48 => (61, [(48, .aload_n 0, 1, 0, 0, 0, .inl 0), (49, .getfield 9, 3, 8, 0, 2, .inl 0), (52, .iload_n 3, 1, 3, 0, 0, .inl 0), (53, .iaload, 1, 0, 0, 0, .inl 0), (54, .ifCond .ne 7, 3, 61, 0, 0, .inl 0), (57, .iconst 1, 1, 0, 0, 0, .inl (nI 1)), (58, .goto 4, 3, 62, 0, 0, .inl 0)])
  | 61 => (62, [(61, .iconst 0, 1, 0, 0, 0, .inl (nI 0))])
  | 62 => (64, [(62, .istore 4, 2, 4, 0, 0, .inl 0)])
  | 64 => (89, [(64, .aload_n 0, 1, 0, 0, 0, .inl 0), (65, .getfield 9, 3, 8, 0, 2, .inl 0), (68, .iload_n 3, 1, 3, 0, 0, .inl 0), (69, .dup2, 1, 0, 0, 0, .inl 0), (70, .iaload, 1, 0, 0, 0, .inl 0), (71, .iconst 1, 1, 0, 0, 0, .inl (nI 1)), (72, .iload_n 1, 1, 1, 0, 0, .inl 0), (73, .ishl, 1, 0, 0, 0, .inl 0), (74, .ior, 1, 0, 0, 0, .inl 0), (75, .iastore, 1, 0, 0, 0, .inl 0), (76, .aload_n 0, 1, 0, 0, 0, .inl 0), (77, .iload_n 1, 1, 1, 0, 0, .inl 0), (78, .iconst 1, 1, 0, 0, 0, .inl (nI 1)), (79, .iadd, 1, 0, 0, 0, .inl 0), (80, .iload_n 2, 1, 2, 0, 0, .inl 0), (81, .invokevirtual 74, 3, 8007, 3, 8, .inl 0), (84, .ifCond .eq 5, 3, 89, 0, 0, .inl 0), (87, .iconst 1, 1, 0, 0, 0, .inl (nI 1)), (88, .ireturn, 1, 0, 0, 0, .inl 0)])
  | 89 => (103, [(89, .aload_n 0, 1, 0, 0, 0, .inl 0), (90, .getfield 9, 3, 8, 0, 2, .inl 0), (93, .iload_n 3, 1, 3, 0, 0, .inl 0), (94, .dup2, 1, 0, 0, 0, .inl 0), (95, .iaload, 1, 0, 0, 0, .inl 0), (96, .iconst 1, 1, 0, 0, 0, .inl (nI 1)), (97, .iload_n 1, 1, 1, 0, 0, .inl 0), (98, .ishl, 1, 0, 0, 0, .inl 0), (99, .iconst (-1), 1, 0, 0, 0, .inl (-1)), (100, .ixor, 1, 0, 0, 0, .inl 0), (101, .iand, 1, 0, 0, 0, .inl 0), (102, .iastore, 1, 0, 0, 0, .inl 0)])
  | 103 => (111, [(103, .iload 4, 2, 4, 0, 0, .inl 0), (105, .ifCond .eq 6, 3, 111, 0, 0, .inl 0), (108, .goto 9, 3, 117, 0, 0, .inl 0)])
  | 111 => (117, [(111, .iinc 3 1, 3, 3, 0, 0, .inl (nI 1)), (114, .goto (-99), 3, 15, 0, 0, .inl 0)])
  | 117 => (119, [(117, .iconst 0, 1, 0, 0, 0, .inl (nI 0)), (118, .ireturn, 1, 0, 0, 0, .inl 0)])
  | n => (n, [])
theorem ck_8007 : ∀ pc, px_cks pn_i8007 (bk_8007 pc).1 pc (bk_8007 pc).2 = true := by
  intro pc
  unfold bk_8007
  split <;> first | decide +kernel | simp [px_cks]
/-- NoThree$Painter.waysWith(LNoThree$Town;I)J -/
def bk_8008 : Nat → Nat × List px_E := fun pc => match pc with
  | 0 => (2, [(0, .iconst 0, 1, 0, 0, 0, .inl (nI 0)), (1, .istore_n 3, 1, 3, 0, 0, .inl 0)])
  | 2 => (26, [(2, .iload_n 3, 1, 3, 0, 0, .inl 0), (3, .bipush 11, 2, 0, 0, 0, .inl (nI 11)), (5, .if_icmp .ge 21, 3, 26, 0, 0, .inl 0), (8, .aload_n 0, 1, 0, 0, 0, .inl 0), (9, .getfield 15, 3, 8, 1, 2, .inl 0), (12, .iload_n 3, 1, 3, 0, 0, .inl 0), (13, .aload_n 1, 1, 1, 0, 0, .inl 0), (14, .getfield 50, 3, 11, 1, 2, .inl 0), (17, .iload_n 3, 1, 3, 0, 0, .inl 0), (18, .iaload, 1, 0, 0, 0, .inl 0), (19, .iastore, 1, 0, 0, 0, .inl 0), (20, .iinc 3 1, 3, 3, 0, 0, .inl (nI 1)), (23, .goto (-21), 3, 2, 0, 0, .inl 0)])
  | 26 => (37, [(26, .aload_n 0, 1, 0, 0, 0, .inl 0), (27, .iconst 0, 1, 0, 0, 0, .inl (nI 0)), (28, .aload_n 1, 1, 1, 0, 0, .inl 0), (29, .invokevirtual 66, 3, 11004, 1, 11, .inl 0), (32, .iload_n 2, 1, 2, 0, 0, .inl 0), (33, .invokevirtual 78, 3, 8009, 4, 8, .inl 0), (36, .lreturn, 1, 0, 0, 0, .inl 0)])
  | n => (n, [])
theorem ck_8008 : ∀ pc, px_cks pn_i8008 (bk_8008 pc).1 pc (bk_8008 pc).2 = true := by
  intro pc
  unfold bk_8008
  split <;> first | decide +kernel | simp [px_cks]
/-- NoThree$Painter.waysOf(III)J -/
def bk_8009 : Nat → Nat × List px_E := fun pc => match pc with
  | 0 => (10, [(0, .iload_n 1, 1, 1, 0, 0, .inl 0), (1, .ifCond .lt 9, 3, 10, 0, 0, .inl 0), (4, .iload_n 1, 1, 1, 0, 0, .inl 0), (5, .bipush 12, 2, 0, 0, 0, .inl (nI 12)), (7, .if_icmp .lt 5, 3, 12, 0, 0, .inl 0)])
  | 10 => (12, [(10, .lconst 0, 1, 0, 0, 0, .inr (.inl (lN 0))), (11, .lreturn, 1, 0, 0, 0, .inl 0)])
  | 12 => (24, [(12, .iload_n 2, 1, 2, 0, 0, .inl 0), (13, .istore 4, 2, 4, 0, 0, .inl 0), (15, .lconst 0, 1, 0, 0, 0, .inr (.inl (lN 0))), (16, .lstore 5, 2, 5, 0, 0, .inl 0), (18, .lconst 1, 1, 0, 0, 0, .inr (.inl (lN 1))), (19, .lstore 7, 2, 7, 0, 0, .inl 0), (21, .iconst 0, 1, 0, 0, 0, .inl (nI 0)), (22, .istore 9, 2, 9, 0, 0, .inl 0)])
  | 24 => (45, [(24, .iload 9, 2, 9, 0, 0, .inl 0), (26, .bipush 100, 2, 0, 0, 0, .inl (nI 100)), (28, .if_icmp .ge 181, 3, 209, 0, 0, .inl 0), (31, .iload 4, 2, 4, 0, 0, .inl 0), (33, .ifCond .eq 176, 3, 209, 0, 0, .inl 0), (36, .aload_n 0, 1, 0, 0, 0, .inl 0), (37, .iload_n 1, 1, 1, 0, 0, .inl 0), (38, .iload 4, 2, 4, 0, 0, .inl 0), (40, .invokevirtual 82, 3, 8012, 3, 8, .inl 0), (43, .istore 10, 2, 10, 0, 0, .inl 0)])
  | 45 => (57, [(45, .aload_n 0, 1, 0, 0, 0, .inl 0), (46, .iload_n 1, 1, 1, 0, 0, .inl 0), (47, .iload 10, 2, 10, 0, 0, .inl 0), (49, .invokevirtual 85, 3, 8010, 3, 8, .inl 0), (52, .iload 4, 2, 4, 0, 0, .inl 0), (54, .iand, 1, 0, 0, 0, .inl 0), (55, .istore 11, 2, 11, 0, 0, .inl 0)])
  | 57 => (72, [(57, .aload_n 0, 1, 0, 0, 0, .inl 0), (58, .iload_n 1, 1, 1, 0, 0, .inl 0), (59, .iload 11, 2, 11, 0, 0, .inl 0), (61, .invokevirtual 88, 3, 8013, 3, 8, .inl 0), (64, .istore 12, 2, 12, 0, 0, .inl 0), (66, .iload 12, 2, 12, 0, 0, .inl 0), (68, .iconst (-1), 1, 0, 0, 0, .inl (-1)), (69, .if_icmp .ne 40, 3, 109, 0, 0, .inl 0)])
  | 72 => (85, [(72, .lload 7, 2, 7, 0, 0, .inl 0), (74, .iload_n 3, 1, 3, 0, 0, .inl 0), (75, .iload 11, 2, 11, 0, 0, .inl 0), (77, .invokestatic 53, 3, 21000, 1, 0, .inl 0), (80, .isub, 1, 0, 0, 0, .inl 0), (81, .i2l, 1, 0, 0, 0, .inl 0), (82, .lmul, 1, 0, 0, 0, .inl 0), (83, .lstore 7, 2, 7, 0, 0, .inl 0)])
  | 85 => (95, [(85, .lload 7, 2, 7, 0, 0, .inl 0), (87, .lconst 0, 1, 0, 0, 0, .inr (.inl (lN 0))), (88, .lcmp, 1, 0, 0, 0, .inl 0), (89, .ifCond .gt 6, 3, 95, 0, 0, .inl 0), (92, .lload 5, 2, 5, 0, 0, .inl 0), (94, .lreturn, 1, 0, 0, 0, .inl 0)])
  | 95 => (109, [(95, .iload 4, 2, 4, 0, 0, .inl 0), (97, .iconst 1, 1, 0, 0, 0, .inl (nI 1)), (98, .iload 10, 2, 10, 0, 0, .inl 0), (100, .ishl, 1, 0, 0, 0, .inl 0), (101, .iconst (-1), 1, 0, 0, 0, .inl (-1)), (102, .ixor, 1, 0, 0, 0, .inl 0), (103, .iand, 1, 0, 0, 0, .inl 0), (104, .istore 4, 2, 4, 0, 0, .inl 0), (106, .goto 97, 3, 203, 0, 0, .inl 0)])
  | 109 => (116, [(109, .iload 12, 2, 12, 0, 0, .inl 0), (111, .bipush 11, 2, 0, 0, 0, .inl (nI 11)), (113, .idiv, 1, 0, 0, 0, .inl 0), (114, .istore 13, 2, 13, 0, 0, .inl 0)])
  | 116 => (123, [(116, .iload 12, 2, 12, 0, 0, .inl 0), (118, .bipush 11, 2, 0, 0, 0, .inl (nI 11)), (120, .irem, 1, 0, 0, 0, .inl 0), (121, .istore 14, 2, 14, 0, 0, .inl 0)])
  | 123 => (140, [(123, .iload_n 1, 1, 1, 0, 0, .inl 0), (124, .iconst 1, 1, 0, 0, 0, .inl (nI 1)), (125, .iadd, 1, 0, 0, 0, .inl 0), (126, .bipush 12, 2, 0, 0, 0, .inl (nI 12)), (128, .if_icmp .ge 37, 3, 165, 0, 0, .inl 0), (131, .aload_n 0, 1, 0, 0, 0, .inl 0), (132, .iload_n 1, 1, 1, 0, 0, .inl 0), (133, .iload 13, 2, 13, 0, 0, .inl 0), (135, .iload 14, 2, 14, 0, 0, .inl 0), (137, .invokevirtual 91, 3, 8014, 4, 8, .inl 0)])
  | 140 => (165, [(140, .lload 5, 2, 5, 0, 0, .inl 0), (142, .lload 7, 2, 7, 0, 0, .inl 0), (144, .aload_n 0, 1, 0, 0, 0, .inl 0), (145, .iload_n 1, 1, 1, 0, 0, .inl 0), (146, .iconst 1, 1, 0, 0, 0, .inl (nI 1)), (147, .iadd, 1, 0, 0, 0, .inl 0), (148, .iload 4, 2, 4, 0, 0, .inl 0), (150, .iconst 1, 1, 0, 0, 0, .inl (nI 1)), (151, .iload 14, 2, 14, 0, 0, .inl 0), (153, .ishl, 1, 0, 0, 0, .inl 0), (154, .iconst (-1), 1, 0, 0, 0, .inl (-1)), (155, .ixor, 1, 0, 0, 0, .inl 0), (156, .iand, 1, 0, 0, 0, .inl 0), (157, .iload_n 3, 1, 3, 0, 0, .inl 0), (158, .invokevirtual 78, 3, 8009, 4, 8, .inl 0), (161, .lmul, 1, 0, 0, 0, .inl 0), (162, .ladd, 1, 0, 0, 0, .inl 0), (163, .lstore 5, 2, 5, 0, 0, .inl 0)])
  | 165 => (184, [(165, .aload_n 0, 1, 0, 0, 0, .inl 0), (166, .iload_n 1, 1, 1, 0, 0, .inl 0), (167, .iload 13, 2, 13, 0, 0, .inl 0), (169, .aload_n 0, 1, 0, 0, 0, .inl 0), (170, .iload_n 1, 1, 1, 0, 0, .inl 0), (171, .iload 13, 2, 13, 0, 0, .inl 0), (173, .invokevirtual 85, 3, 8010, 3, 8, .inl 0), (176, .iconst 1, 1, 0, 0, 0, .inl (nI 1)), (177, .iload 14, 2, 14, 0, 0, .inl 0), (179, .ishl, 1, 0, 0, 0, .inl 0), (180, .ior, 1, 0, 0, 0, .inl 0), (181, .invokevirtual 95, 3, 8011, 4, 8, .inl 0)])
  | 184 => (203, [(184, .aload_n 0, 1, 0, 0, 0, .inl 0), (185, .iload_n 1, 1, 1, 0, 0, .inl 0), (186, .iload 14, 2, 14, 0, 0, .inl 0), (188, .aload_n 0, 1, 0, 0, 0, .inl 0), (189, .iload_n 1, 1, 1, 0, 0, .inl 0), (190, .iload 14, 2, 14, 0, 0, .inl 0), (192, .invokevirtual 85, 3, 8010, 3, 8, .inl 0), (195, .iconst 1, 1, 0, 0, 0, .inl (nI 1)), (196, .iload 13, 2, 13, 0, 0, .inl 0), (198, .ishl, 1, 0, 0, 0, .inl 0), (199, .ior, 1, 0, 0, 0, .inl 0), (200, .invokevirtual 95, 3, 8011, 4, 8, .inl 0)])
  | 203 => (209, [(203, .iinc 9 1, 3, 9, 0, 0, .inl (nI 1)), (206, .goto (-182), 3, 24, 0, 0, .inl 0)])
  | 209 => (222, [(209, .iload 4, 2, 4, 0, 0, .inl 0), (211, .ifCond .ne 11, 3, 222, 0, 0, .inl 0), (214, .lload 5, 2, 5, 0, 0, .inl 0), (216, .lload 7, 2, 7, 0, 0, .inl 0), (218, .ladd, 1, 0, 0, 0, .inl 0), (219, .goto 5, 3, 224, 0, 0, .inl 0)])
  | 222 => (224, [(222, .lload 5, 2, 5, 0, 0, .inl 0)])
  | 224 => (225, [(224, .lreturn, 1, 0, 0, 0, .inl 0)])
  | n => (n, [])
theorem ck_8009 : ∀ pc, px_cks pn_i8009 (bk_8009 pc).1 pc (bk_8009 pc).2 = true := by
  intro pc
  unfold bk_8009
  split <;> first | decide +kernel | simp [px_cks]
/-- NoThree$Painter.sketched(II)I -/
def bk_8010 : Nat → Nat × List px_E := fun pc => match pc with
  | 0 => (7, [(0, .iload_n 1, 1, 1, 0, 0, .inl 0), (1, .bipush 11, 2, 0, 0, 0, .inl (nI 11)), (3, .imul, 1, 0, 0, 0, .inl 0), (4, .iload_n 2, 1, 2, 0, 0, .inl 0), (5, .iadd, 1, 0, 0, 0, .inl 0), (6, .istore_n 3, 1, 3, 0, 0, .inl 0)])
  | 7 => (33, [(7, .iload_n 2, 1, 2, 0, 0, .inl 0), (8, .ifCond .lt 25, 3, 33, 0, 0, .inl 0), (11, .iload_n 3, 1, 3, 0, 0, .inl 0), (12, .ifCond .lt 21, 3, 33, 0, 0, .inl 0), (15, .iload_n 3, 1, 3, 0, 0, .inl 0), (16, .aload_n 0, 1, 0, 0, 0, .inl 0), (17, .getfield 15, 3, 8, 1, 2, .inl 0), (20, .arraylength, 1, 0, 0, 0, .inl 0), (21, .if_icmp .ge 12, 3, 33, 0, 0, .inl 0), (24, .aload_n 0, 1, 0, 0, 0, .inl 0), (25, .getfield 15, 3, 8, 1, 2, .inl 0), (28, .iload_n 3, 1, 3, 0, 0, .inl 0), (29, .iaload, 1, 0, 0, 0, .inl 0), (30, .goto 4, 3, 34, 0, 0, .inl 0)])
  | 33 => (34, [(33, .iconst 0, 1, 0, 0, 0, .inl (nI 0))])
  | 34 => (35, [(34, .ireturn, 1, 0, 0, 0, .inl 0)])
  | n => (n, [])
theorem ck_8010 : ∀ pc, px_cks pn_i8010 (bk_8010 pc).1 pc (bk_8010 pc).2 = true := by
  intro pc
  unfold bk_8010
  split <;> first | decide +kernel | simp [px_cks]
/-- NoThree$Painter.setSketch(III)V -/
def bk_8011 : Nat → Nat × List px_E := fun pc => match pc with
  | 0 => (8, [(0, .iload_n 1, 1, 1, 0, 0, .inl 0), (1, .bipush 11, 2, 0, 0, 0, .inl (nI 11)), (3, .imul, 1, 0, 0, 0, .inl 0), (4, .iload_n 2, 1, 2, 0, 0, .inl 0), (5, .iadd, 1, 0, 0, 0, .inl 0), (6, .istore 4, 2, 4, 0, 0, .inl 0)])
  | 8 => (35, [(8, .iload_n 2, 1, 2, 0, 0, .inl 0), (9, .ifCond .lt 26, 3, 35, 0, 0, .inl 0), (12, .iload 4, 2, 4, 0, 0, .inl 0), (14, .ifCond .lt 21, 3, 35, 0, 0, .inl 0), (17, .iload 4, 2, 4, 0, 0, .inl 0), (19, .aload_n 0, 1, 0, 0, 0, .inl 0), (20, .getfield 15, 3, 8, 1, 2, .inl 0), (23, .arraylength, 1, 0, 0, 0, .inl 0), (24, .if_icmp .ge 11, 3, 35, 0, 0, .inl 0), (27, .aload_n 0, 1, 0, 0, 0, .inl 0), (28, .getfield 15, 3, 8, 1, 2, .inl 0), (31, .iload 4, 2, 4, 0, 0, .inl 0), (33, .iload_n 3, 1, 3, 0, 0, .inl 0), (34, .iastore, 1, 0, 0, 0, .inl 0)])
  | 35 => (36, [(35, .return_, 1, 0, 0, 0, .inl 0)])
  | n => (n, [])
theorem ck_8011 : ∀ pc, px_cks pn_i8011 (bk_8011 pc).1 pc (bk_8011 pc).2 = true := by
  intro pc
  unfold bk_8011
  split <;> first | decide +kernel | simp [px_cks]
/-- NoThree$Painter.leastLoose(II)I -/
def bk_8012 : Nat → Nat × List px_E := fun pc => match pc with
  | 0 => (9, [(0, .iconst (-1), 1, 0, 0, 0, .inl (-1)), (1, .istore_n 3, 1, 3, 0, 0, .inl 0), (2, .bipush 11, 2, 0, 0, 0, .inl (nI 11)), (4, .istore 4, 2, 4, 0, 0, .inl 0), (6, .iconst 0, 1, 0, 0, 0, .inl (nI 0)), (7, .istore 5, 2, 5, 0, 0, .inl 0)])
  | 9 => (28, [(9, .iload 5, 2, 5, 0, 0, .inl 0), (11, .bipush 11, 2, 0, 0, 0, .inl (nI 11)), (13, .if_icmp .ge 66, 3, 79, 0, 0, .inl 0), (16, .iload_n 2, 1, 2, 0, 0, .inl 0), (17, .iconst 1, 1, 0, 0, 0, .inl (nI 1)), (18, .iload 5, 2, 5, 0, 0, .inl 0), (20, .ishl, 1, 0, 0, 0, .inl 0), (21, .iand, 1, 0, 0, 0, .inl 0), (22, .ifCond .ne 6, 3, 28, 0, 0, .inl 0), (25, .goto 48, 3, 73, 0, 0, .inl 0)])
  | 28 => (39, [(28, .aload_n 0, 1, 0, 0, 0, .inl 0), (29, .iload_n 1, 1, 1, 0, 0, .inl 0), (30, .iload 5, 2, 5, 0, 0, .inl 0), (32, .invokevirtual 85, 3, 8010, 3, 8, .inl 0), (35, .iload_n 2, 1, 2, 0, 0, .inl 0), (36, .iand, 1, 0, 0, 0, .inl 0), (37, .istore 6, 2, 6, 0, 0, .inl 0)])
  | 39 => (53, [(39, .aload_n 0, 1, 0, 0, 0, .inl 0), (40, .iload_n 1, 1, 1, 0, 0, .inl 0), (41, .iload 6, 2, 6, 0, 0, .inl 0), (43, .invokevirtual 88, 3, 8013, 3, 8, .inl 0), (46, .iconst (-1), 1, 0, 0, 0, .inl (-1)), (47, .if_icmp .ne 6, 3, 53, 0, 0, .inl 0), (50, .iload 5, 2, 5, 0, 0, .inl 0), (52, .ireturn, 1, 0, 0, 0, .inl 0)])
  | 53 => (73, [(53, .iload 6, 2, 6, 0, 0, .inl 0), (55, .invokestatic 53, 3, 21000, 1, 0, .inl 0), (58, .iload 4, 2, 4, 0, 0, .inl 0), (60, .if_icmp .ge 13, 3, 73, 0, 0, .inl 0), (63, .iload 6, 2, 6, 0, 0, .inl 0), (65, .invokestatic 53, 3, 21000, 1, 0, .inl 0), (68, .istore 4, 2, 4, 0, 0, .inl 0), (70, .iload 5, 2, 5, 0, 0, .inl 0), (72, .istore_n 3, 1, 3, 0, 0, .inl 0)])
  | 73 => (79, [(73, .iinc 5 1, 3, 5, 0, 0, .inl (nI 1)), (76, .goto (-67), 3, 9, 0, 0, .inl 0)])
  | 79 => (81, [(79, .iload_n 3, 1, 3, 0, 0, .inl 0), (80, .ireturn, 1, 0, 0, 0, .inl 0)])
  | n => (n, [])
theorem ck_8012 : ∀ pc, px_cks pn_i8012 (bk_8012 pc).1 pc (bk_8012 pc).2 = true := by
  intro pc
  unfold bk_8012
  split <;> first | decide +kernel | simp [px_cks]
/-- NoThree$Painter.looseOf(II)I -/
def bk_8013 : Nat → Nat × List px_E := fun pc => match pc with
  | 0 => (2, [(0, .iconst 0, 1, 0, 0, 0, .inl (nI 0)), (1, .istore_n 3, 1, 3, 0, 0, .inl 0)])
  | 2 => (19, [(2, .iload_n 3, 1, 3, 0, 0, .inl 0), (3, .bipush 11, 2, 0, 0, 0, .inl (nI 11)), (5, .if_icmp .ge 78, 3, 83, 0, 0, .inl 0), (8, .iload_n 2, 1, 2, 0, 0, .inl 0), (9, .iconst 1, 1, 0, 0, 0, .inl (nI 1)), (10, .iload_n 3, 1, 3, 0, 0, .inl 0), (11, .ishl, 1, 0, 0, 0, .inl 0), (12, .iand, 1, 0, 0, 0, .inl 0), (13, .ifCond .ne 6, 3, 19, 0, 0, .inl 0), (16, .goto 61, 3, 77, 0, 0, .inl 0)])
  | 19 => (36, [(19, .iload_n 2, 1, 2, 0, 0, .inl 0), (20, .aload_n 0, 1, 0, 0, 0, .inl 0), (21, .iload_n 1, 1, 1, 0, 0, .inl 0), (22, .iload_n 3, 1, 3, 0, 0, .inl 0), (23, .invokevirtual 85, 3, 8010, 3, 8, .inl 0), (26, .iconst (-1), 1, 0, 0, 0, .inl (-1)), (27, .ixor, 1, 0, 0, 0, .inl 0), (28, .iand, 1, 0, 0, 0, .inl 0), (29, .bipush (-2), 2, 0, 0, 0, .inl (-2)), (31, .iload_n 3, 1, 3, 0, 0, .inl 0), (32, .ishl, 1, 0, 0, 0, .inl 0), (33, .iand, 1, 0, 0, 0, .inl 0), (34, .istore 4, 2, 4, 0, 0, .inl 0)])
  | 36 => (41, [(36, .iload_n 3, 1, 3, 0, 0, .inl 0), (37, .iconst 1, 1, 0, 0, 0, .inl (nI 1)), (38, .iadd, 1, 0, 0, 0, .inl 0), (39, .istore 5, 2, 5, 0, 0, .inl 0)])
  | 41 => (71, [(41, .iload 5, 2, 5, 0, 0, .inl 0), (43, .bipush 11, 2, 0, 0, 0, .inl (nI 11)), (45, .if_icmp .ge 32, 3, 77, 0, 0, .inl 0), (48, .iload 4, 2, 4, 0, 0, .inl 0), (50, .ifCond .eq 27, 3, 77, 0, 0, .inl 0), (53, .iload 4, 2, 4, 0, 0, .inl 0), (55, .iconst 1, 1, 0, 0, 0, .inl (nI 1)), (56, .iload 5, 2, 5, 0, 0, .inl 0), (58, .ishl, 1, 0, 0, 0, .inl 0), (59, .iand, 1, 0, 0, 0, .inl 0), (60, .ifCond .eq 11, 3, 71, 0, 0, .inl 0), (63, .bipush 11, 2, 0, 0, 0, .inl (nI 11)), (65, .iload_n 3, 1, 3, 0, 0, .inl 0), (66, .imul, 1, 0, 0, 0, .inl 0), (67, .iload 5, 2, 5, 0, 0, .inl 0), (69, .iadd, 1, 0, 0, 0, .inl 0), (70, .ireturn, 1, 0, 0, 0, .inl 0)])
  | 71 => (77, [(71, .iinc 5 1, 3, 5, 0, 0, .inl (nI 1)), (74, .goto (-33), 3, 41, 0, 0, .inl 0)])
  | 77 => (83, [(77, .iinc 3 1, 3, 3, 0, 0, .inl (nI 1)), (80, .goto (-78), 3, 2, 0, 0, .inl 0)])
  | 83 => (85, [(83, .iconst (-1), 1, 0, 0, 0, .inl (-1)), (84, .ireturn, 1, 0, 0, 0, .inl 0)])
  | n => (n, [])
theorem ck_8013 : ∀ pc, px_cks pn_i8013 (bk_8013 pc).1 pc (bk_8013 pc).2 = true := by
  intro pc
  unfold bk_8013
  split <;> first | decide +kernel | simp [px_cks]
/-- NoThree$Painter.mergeAbove(III)V -/
def bk_8014 : Nat → Nat × List px_E := fun pc => match pc with
  | 0 => (15, [(0, .aload_n 0, 1, 0, 0, 0, .inl 0), (1, .iload_n 1, 1, 1, 0, 0, .inl 0), (2, .iload_n 2, 1, 2, 0, 0, .inl 0), (3, .invokevirtual 85, 3, 8010, 3, 8, .inl 0), (6, .aload_n 0, 1, 0, 0, 0, .inl 0), (7, .iload_n 1, 1, 1, 0, 0, .inl 0), (8, .iload_n 3, 1, 3, 0, 0, .inl 0), (9, .invokevirtual 85, 3, 8010, 3, 8, .inl 0), (12, .ior, 1, 0, 0, 0, .inl 0), (13, .istore 4, 2, 4, 0, 0, .inl 0)])
  | 15 => (18, [(15, .iconst 0, 1, 0, 0, 0, .inl (nI 0)), (16, .istore 5, 2, 5, 0, 0, .inl 0)])
  | 18 => (59, [(18, .iload 5, 2, 5, 0, 0, .inl 0), (20, .bipush 11, 2, 0, 0, 0, .inl (nI 11)), (22, .if_icmp .ge 48, 3, 70, 0, 0, .inl 0), (25, .aload_n 0, 1, 0, 0, 0, .inl 0), (26, .iload_n 1, 1, 1, 0, 0, .inl 0), (27, .iload 5, 2, 5, 0, 0, .inl 0), (29, .invokevirtual 85, 3, 8010, 3, 8, .inl 0), (32, .istore 6, 2, 6, 0, 0, .inl 0), (34, .aload_n 0, 1, 0, 0, 0, .inl 0), (35, .iload_n 1, 1, 1, 0, 0, .inl 0), (36, .iconst 1, 1, 0, 0, 0, .inl (nI 1)), (37, .iadd, 1, 0, 0, 0, .inl 0), (38, .iload 5, 2, 5, 0, 0, .inl 0), (40, .iload 4, 2, 4, 0, 0, .inl 0), (42, .iconst 1, 1, 0, 0, 0, .inl (nI 1)), (43, .iload 5, 2, 5, 0, 0, .inl 0), (45, .ishl, 1, 0, 0, 0, .inl 0), (46, .iand, 1, 0, 0, 0, .inl 0), (47, .ifCond .eq 12, 3, 59, 0, 0, .inl 0), (50, .iload 6, 2, 6, 0, 0, .inl 0), (52, .iconst 1, 1, 0, 0, 0, .inl (nI 1)), (53, .iload_n 2, 1, 2, 0, 0, .inl 0), (54, .ishl, 1, 0, 0, 0, .inl 0), (55, .ior, 1, 0, 0, 0, .inl 0), (56, .goto 5, 3, 61, 0, 0, .inl 0)])
  | 59 => (61, [(59, .iload 6, 2, 6, 0, 0, .inl 0)])
  | 61 => (64, [(61, .invokevirtual 95, 3, 8011, 4, 8, .inl 0)])
  | 64 => (70, [(64, .iinc 5 1, 3, 5, 0, 0, .inl (nI 1)), (67, .goto (-49), 3, 18, 0, 0, .inl 0)])
  | 70 => (81, [(70, .aload_n 0, 1, 0, 0, 0, .inl 0), (71, .iload_n 1, 1, 1, 0, 0, .inl 0), (72, .iconst 1, 1, 0, 0, 0, .inl (nI 1)), (73, .iadd, 1, 0, 0, 0, .inl 0), (74, .iload_n 2, 1, 2, 0, 0, .inl 0), (75, .iload 4, 2, 4, 0, 0, .inl 0), (77, .invokevirtual 95, 3, 8011, 4, 8, .inl 0), (80, .return_, 1, 0, 0, 0, .inl 0)])
  | n => (n, [])
theorem ck_8014 : ∀ pc, px_cks pn_i8014 (bk_8014 pc).1 pc (bk_8014 pc).2 = true := by
  intro pc
  unfold bk_8014
  split <;> first | decide +kernel | simp [px_cks]
/-- NoThree$Reader.hasRoomFor(I)Z -/
def bk_9002 : Nat → Nat × List px_E := fun pc => match pc with
  | 0 => (16, [(0, .aload_n 0, 1, 0, 0, 0, .inl 0), (1, .getfield 9, 3, 9, 0, 0, .inl 0), (4, .iload_n 1, 1, 1, 0, 0, .inl 0), (5, .iadd, 1, 0, 0, 0, .inl 0), (6, .sipush 900, 3, 0, 0, 0, .inl (nI 900)), (9, .if_icmp .gt 7, 3, 16, 0, 0, .inl 0), (12, .iconst 1, 1, 0, 0, 0, .inl (nI 1)), (13, .goto 4, 3, 17, 0, 0, .inl 0)])
  | 16 => (17, [(16, .iconst 0, 1, 0, 0, 0, .inl (nI 0))])
  | 17 => (18, [(17, .ireturn, 1, 0, 0, 0, .inl 0)])
  | n => (n, [])
theorem ck_9002 : ∀ pc, px_cks pn_i9002 (bk_9002 pc).1 pc (bk_9002 pc).2 = true := by
  intro pc
  unfold bk_9002
  split <;> first | decide +kernel | simp [px_cks]
/-- NoThree$Reader.append(I)V -/
def bk_9003 : Nat → Nat × List px_E := fun pc => match pc with
  | 0 => (3, [(0, .bipush 24, 2, 0, 0, 0, .inl (nI 24)), (2, .istore_n 2, 1, 2, 0, 0, .inl 0)])
  | 3 => (47, [(3, .iload_n 2, 1, 2, 0, 0, .inl 0), (4, .ifCond .lt 49, 3, 53, 0, 0, .inl 0), (7, .aload_n 0, 1, 0, 0, 0, .inl 0), (8, .getfield 9, 3, 9, 0, 0, .inl 0), (11, .ifCond .lt 36, 3, 47, 0, 0, .inl 0), (14, .aload_n 0, 1, 0, 0, 0, .inl 0), (15, .getfield 9, 3, 9, 0, 0, .inl 0), (18, .sipush 900, 3, 0, 0, 0, .inl (nI 900)), (21, .if_icmp .ge 26, 3, 47, 0, 0, .inl 0), (24, .aload_n 0, 1, 0, 0, 0, .inl 0), (25, .getfield 28, 3, 9, 4, 2, .inl 0), (28, .aload_n 0, 1, 0, 0, 0, .inl 0), (29, .getfield 9, 3, 9, 0, 0, .inl 0), (32, .iload_n 1, 1, 1, 0, 0, .inl 0), (33, .iload_n 2, 1, 2, 0, 0, .inl 0), (34, .ishr, 1, 0, 0, 0, .inl 0), (35, .i2b, 1, 0, 0, 0, .inl 0), (36, .bastore, 1, 0, 0, 0, .inl 0), (37, .aload_n 0, 1, 0, 0, 0, .inl 0), (38, .dup, 1, 0, 0, 0, .inl 0), (39, .getfield 9, 3, 9, 0, 0, .inl 0), (42, .iconst 1, 1, 0, 0, 0, .inl (nI 1)), (43, .iadd, 1, 0, 0, 0, .inl 0), (44, .putfield 9, 3, 9, 0, 0, .inl 0)])
  | 47 => (53, [(47, .iinc 2 (-8), 3, 2, 0, 0, .inl (-8)), (50, .goto (-47), 3, 3, 0, 0, .inl 0)])
  | 53 => (54, [(53, .return_, 1, 0, 0, 0, .inl 0)])
  | n => (n, [])
theorem ck_9003 : ∀ pc, px_cks pn_i9003 (bk_9003 pc).1 pc (bk_9003 pc).2 = true := by
  intro pc
  unfold bk_9003
  split <;> first | decide +kernel | simp [px_cks]
