/-- NoThree$Annals.become(LNoThree$Annals;)V -/
def bk_1002 : Nat → Nat × List px_E := fun pc => match pc with
  | 0 => (30, [(0, .aload_n 0, 1, 0, 0, 0, .inl 0), (1, .getfield 12, 3, 1, 0, 2, .inl 0), (4, .aload_n 1, 1, 1, 0, 0, .inl 0), (5, .getfield 12, 3, 1, 0, 2, .inl 0), (8, .invokevirtual 39, 3, 11007, 2, 11, .inl 0), (11, .aload_n 0, 1, 0, 0, 0, .inl 0), (12, .getfield 21, 3, 1, 1, 2, .inl 0), (15, .aload_n 1, 1, 1, 0, 0, .inl 0), (16, .getfield 21, 3, 1, 1, 2, .inl 0), (19, .invokevirtual 43, 3, 10003, 2, 10, .inl 0), (22, .aload_n 0, 1, 0, 0, 0, .inl 0), (23, .aload_n 1, 1, 1, 0, 0, .inl 0), (24, .getfield 25, 3, 1, 2, 0, .inl 0), (27, .putfield 25, 3, 1, 2, 0, .inl 0)])
  | 30 => (48, [(30, .aload_n 0, 1, 0, 0, 0, .inl 0), (31, .aload_n 1, 1, 1, 0, 0, .inl 0), (32, .getfield 29, 3, 1, 3, 0, .inl 0), (35, .putfield 29, 3, 1, 3, 0, .inl 0), (38, .aload_n 0, 1, 0, 0, 0, .inl 0), (39, .aload_n 1, 1, 1, 0, 0, .inl 0), (40, .getfield 32, 3, 1, 4, 0, .inl 0), (43, .putfield 32, 3, 1, 4, 0, .inl 0), (46, .iconst 0, 1, 0, 0, 0, .inl (nI 0)), (47, .istore_n 2, 1, 2, 0, 0, .inl 0)])
  | 48 => (75, [(48, .iload_n 2, 1, 2, 0, 0, .inl 0), (49, .aload_n 0, 1, 0, 0, 0, .inl 0), (50, .getfield 35, 3, 1, 5, 2, .inl 0), (53, .arraylength, 1, 0, 0, 0, .inl 0), (54, .if_icmp .ge 21, 3, 75, 0, 0, .inl 0), (57, .aload_n 0, 1, 0, 0, 0, .inl 0), (58, .getfield 35, 3, 1, 5, 2, .inl 0), (61, .iload_n 2, 1, 2, 0, 0, .inl 0), (62, .aload_n 1, 1, 1, 0, 0, .inl 0), (63, .getfield 35, 3, 1, 5, 2, .inl 0), (66, .iload_n 2, 1, 2, 0, 0, .inl 0), (67, .iaload, 1, 0, 0, 0, .inl 0), (68, .iastore, 1, 0, 0, 0, .inl 0), (69, .iinc 2 1, 3, 2, 0, 0, .inl (nI 1)), (72, .goto (-24), 3, 48, 0, 0, .inl 0)])
  | 75 => (76, [(75, .return_, 1, 0, 0, 0, .inl 0)])
  | n => (n, [])
theorem ck_1002 : ∀ pc, px_cks pn_i1002 (bk_1002 pc).1 pc (bk_1002 pc).2 = true := by
  intro pc
  unfold bk_1002
  split <;> first | decide +kernel | simp [px_cks]
/-- NoThree$Annals.clear()V -/
def bk_1003 : Nat → Nat × List px_E := fun pc => match pc with
  | 0 => (25, [(0, .aload_n 0, 1, 0, 0, 0, .inl 0), (1, .getfield 12, 3, 1, 0, 2, .inl 0), (4, .invokevirtual 46, 3, 11008, 1, 11, .inl 0), (7, .aload_n 0, 1, 0, 0, 0, .inl 0), (8, .getfield 21, 3, 1, 1, 2, .inl 0), (11, .invokevirtual 49, 3, 10002, 1, 10, .inl 0), (14, .aload_n 0, 1, 0, 0, 0, .inl 0), (15, .iconst 0, 1, 0, 0, 0, .inl (nI 0)), (16, .putfield 25, 3, 1, 2, 0, .inl 0), (19, .aload_n 0, 1, 0, 0, 0, .inl 0), (20, .iconst 0, 1, 0, 0, 0, .inl (nI 0)), (21, .putfield 29, 3, 1, 3, 0, .inl 0), (24, .return_, 1, 0, 0, 0, .inl 0)])
  | n => (n, [])
theorem ck_1003 : ∀ pc, px_cks pn_i1003 (bk_1003 pc).1 pc (bk_1003 pc).2 = true := by
  intro pc
  unfold bk_1003
  split <;> first | decide +kernel | simp [px_cks]
/-- NoThree$Annals.remember()V -/
def bk_1004 : Nat → Nat × List px_E := fun pc => match pc with
  | 0 => (21, [(0, .aload_n 0, 1, 0, 0, 0, .inl 0), (1, .aload_n 0, 1, 0, 0, 0, .inl 0), (2, .getfield 32, 3, 1, 4, 0, .inl 0), (5, .iconst 1, 1, 0, 0, 0, .inl (nI 1)), (6, .iadd, 1, 0, 0, 0, .inl 0), (7, .bipush 12, 2, 0, 0, 0, .inl (nI 12)), (9, .if_icmp .ge 12, 3, 21, 0, 0, .inl 0), (12, .aload_n 0, 1, 0, 0, 0, .inl 0), (13, .getfield 32, 3, 1, 4, 0, .inl 0), (16, .iconst 1, 1, 0, 0, 0, .inl (nI 1)), (17, .iadd, 1, 0, 0, 0, .inl 0), (18, .goto 4, 3, 22, 0, 0, .inl 0)])
  | 21 => (22, [(21, .iconst 0, 1, 0, 0, 0, .inl (nI 0))])
  | 22 => (33, [(22, .putfield 32, 3, 1, 4, 0, .inl 0), (25, .aload_n 0, 1, 0, 0, 0, .inl 0), (26, .getfield 32, 3, 1, 4, 0, .inl 0), (29, .bipush 12, 2, 0, 0, 0, .inl (nI 12)), (31, .imul, 1, 0, 0, 0, .inl 0), (32, .istore_n 1, 1, 1, 0, 0, .inl 0)])
  | 33 => (35, [(33, .iconst 0, 1, 0, 0, 0, .inl (nI 0)), (34, .istore_n 2, 1, 2, 0, 0, .inl 0)])
  | 35 => (64, [(35, .iload_n 2, 1, 2, 0, 0, .inl 0), (36, .bipush 11, 2, 0, 0, 0, .inl (nI 11)), (38, .if_icmp .ge 26, 3, 64, 0, 0, .inl 0), (41, .aload_n 0, 1, 0, 0, 0, .inl 0), (42, .getfield 35, 3, 1, 5, 2, .inl 0), (45, .iload_n 1, 1, 1, 0, 0, .inl 0), (46, .iload_n 2, 1, 2, 0, 0, .inl 0), (47, .iadd, 1, 0, 0, 0, .inl 0), (48, .aload_n 0, 1, 0, 0, 0, .inl 0), (49, .getfield 12, 3, 1, 0, 2, .inl 0), (52, .getfield 50, 3, 11, 1, 2, .inl 0), (55, .iload_n 2, 1, 2, 0, 0, .inl 0), (56, .iaload, 1, 0, 0, 0, .inl 0), (57, .iastore, 1, 0, 0, 0, .inl 0), (58, .iinc 2 1, 3, 2, 0, 0, .inl (nI 1)), (61, .goto (-26), 3, 35, 0, 0, .inl 0)])
  | 64 => (96, [(64, .aload_n 0, 1, 0, 0, 0, .inl 0), (65, .getfield 35, 3, 1, 5, 2, .inl 0), (68, .iload_n 1, 1, 1, 0, 0, .inl 0), (69, .bipush 11, 2, 0, 0, 0, .inl (nI 11)), (71, .iadd, 1, 0, 0, 0, .inl 0), (72, .aload_n 0, 1, 0, 0, 0, .inl 0), (73, .getfield 12, 3, 1, 0, 2, .inl 0), (76, .getfield 53, 3, 11, 0, 0, .inl 0), (79, .iastore, 1, 0, 0, 0, .inl 0), (80, .aload_n 0, 1, 0, 0, 0, .inl 0), (81, .aload_n 0, 1, 0, 0, 0, .inl 0), (82, .getfield 29, 3, 1, 3, 0, .inl 0), (85, .iconst 1, 1, 0, 0, 0, .inl (nI 1)), (86, .iadd, 1, 0, 0, 0, .inl 0), (87, .bipush 12, 2, 0, 0, 0, .inl (nI 12)), (89, .invokestatic 56, 3, 20001, 2, 2, .inl 0), (92, .putfield 29, 3, 1, 3, 0, .inl 0), (95, .return_, 1, 0, 0, 0, .inl 0)])
  | n => (n, [])
theorem ck_1004 : ∀ pc, px_cks pn_i1004 (bk_1004 pc).1 pc (bk_1004 pc).2 = true := by
  intro pc
  unfold bk_1004
  split <;> first | decide +kernel | simp [px_cks]
/-- NoThree$Annals.takeBack(I)V -/
def bk_1005 : Nat → Nat × List px_E := fun pc => match pc with
  | 0 => (2, [(0, .iconst 0, 1, 0, 0, 0, .inl (nI 0)), (1, .istore_n 2, 1, 2, 0, 0, .inl 0)])
  | 2 => (22, [(2, .iload_n 2, 1, 2, 0, 0, .inl 0), (3, .iload_n 1, 1, 1, 0, 0, .inl 0), (4, .if_icmp .ge 107, 3, 111, 0, 0, .inl 0), (7, .aload_n 0, 1, 0, 0, 0, .inl 0), (8, .getfield 29, 3, 1, 3, 0, .inl 0), (11, .ifCond .le 100, 3, 111, 0, 0, .inl 0), (14, .aload_n 0, 1, 0, 0, 0, .inl 0), (15, .getfield 32, 3, 1, 4, 0, .inl 0), (18, .bipush 12, 2, 0, 0, 0, .inl (nI 12)), (20, .imul, 1, 0, 0, 0, .inl 0), (21, .istore_n 3, 1, 3, 0, 0, .inl 0)])
  | 22 => (25, [(22, .iconst 0, 1, 0, 0, 0, .inl (nI 0)), (23, .istore 4, 2, 4, 0, 0, .inl 0)])
  | 25 => (57, [(25, .iload 4, 2, 4, 0, 0, .inl 0), (27, .bipush 11, 2, 0, 0, 0, .inl (nI 11)), (29, .if_icmp .ge 28, 3, 57, 0, 0, .inl 0), (32, .aload_n 0, 1, 0, 0, 0, .inl 0), (33, .getfield 12, 3, 1, 0, 2, .inl 0), (36, .getfield 50, 3, 11, 1, 2, .inl 0), (39, .iload 4, 2, 4, 0, 0, .inl 0), (41, .aload_n 0, 1, 0, 0, 0, .inl 0), (42, .getfield 35, 3, 1, 5, 2, .inl 0), (45, .iload_n 3, 1, 3, 0, 0, .inl 0), (46, .iload 4, 2, 4, 0, 0, .inl 0), (48, .iadd, 1, 0, 0, 0, .inl 0), (49, .iaload, 1, 0, 0, 0, .inl 0), (50, .iastore, 1, 0, 0, 0, .inl 0), (51, .iinc 4 1, 3, 4, 0, 0, .inl (nI 1)), (54, .goto (-29), 3, 25, 0, 0, .inl 0)])
  | 57 => (90, [(57, .aload_n 0, 1, 0, 0, 0, .inl 0), (58, .getfield 12, 3, 1, 0, 2, .inl 0), (61, .aload_n 0, 1, 0, 0, 0, .inl 0), (62, .getfield 35, 3, 1, 5, 2, .inl 0), (65, .iload_n 3, 1, 3, 0, 0, .inl 0), (66, .bipush 11, 2, 0, 0, 0, .inl (nI 11)), (68, .iadd, 1, 0, 0, 0, .inl 0), (69, .iaload, 1, 0, 0, 0, .inl 0), (70, .putfield 53, 3, 11, 0, 0, .inl 0), (73, .aload_n 0, 1, 0, 0, 0, .inl 0), (74, .aload_n 0, 1, 0, 0, 0, .inl 0), (75, .getfield 32, 3, 1, 4, 0, .inl 0), (78, .ifCond .le 12, 3, 90, 0, 0, .inl 0), (81, .aload_n 0, 1, 0, 0, 0, .inl 0), (82, .getfield 32, 3, 1, 4, 0, .inl 0), (85, .iconst 1, 1, 0, 0, 0, .inl (nI 1)), (86, .isub, 1, 0, 0, 0, .inl 0), (87, .goto 5, 3, 92, 0, 0, .inl 0)])
  | 90 => (92, [(90, .bipush 11, 2, 0, 0, 0, .inl (nI 11))])
  | 92 => (95, [(92, .putfield 32, 3, 1, 4, 0, .inl 0)])
  | 95 => (111, [(95, .aload_n 0, 1, 0, 0, 0, .inl 0), (96, .dup, 1, 0, 0, 0, .inl 0), (97, .getfield 29, 3, 1, 3, 0, .inl 0), (100, .iconst 1, 1, 0, 0, 0, .inl (nI 1)), (101, .isub, 1, 0, 0, 0, .inl 0), (102, .putfield 29, 3, 1, 3, 0, .inl 0), (105, .iinc 2 1, 3, 2, 0, 0, .inl (nI 1)), (108, .goto (-106), 3, 2, 0, 0, .inl 0)])
  | 111 => (112, [(111, .return_, 1, 0, 0, 0, .inl 0)])
  | n => (n, [])
theorem ck_1005 : ∀ pc, px_cks pn_i1005 (bk_1005 pc).1 pc (bk_1005 pc).2 = true := by
  intro pc
  unfold bk_1005
  split <;> first | decide +kernel | simp [px_cks]
/-- NoThree$Council.convene(LNoThree$Rules;LNoThree$Town;)V -/
def bk_2002 : Nat → Nat × List px_E := fun pc => match pc with
  | 0 => (16, [(0, .aload_n 0, 1, 0, 0, 0, .inl 0), (1, .aload_n 1, 1, 1, 0, 0, .inl 0), (2, .putfield 38, 3, 2, 5, 2, .inl 0), (5, .aload_n 0, 1, 0, 0, 0, .inl 0), (6, .aload_n 2, 1, 2, 0, 0, .inl 0), (7, .putfield 42, 3, 2, 6, 2, .inl 0), (10, .aload_n 0, 1, 0, 0, 0, .inl 0), (11, .iconst 0, 1, 0, 0, 0, .inl (nI 0)), (12, .putfield 52, 3, 2, 9, 3, .inl 0), (15, .return_, 1, 0, 0, 0, .inl 0)])
  | n => (n, [])
theorem ck_2002 : ∀ pc, px_cks pn_i2002 (bk_2002 pc).1 pc (bk_2002 pc).2 = true := by
  intro pc
  unfold bk_2002
  split <;> first | decide +kernel | simp [px_cks]
/-- NoThree$Council.holdingNow(I)I -/
def bk_2003 : Nat → Nat × List px_E := fun pc => match pc with
  | 0 => (23, [(0, .aload_n 0, 1, 0, 0, 0, .inl 0), (1, .invokevirtual 56, 3, 2004, 1, 2, .inl 0), (4, .iload_n 1, 1, 1, 0, 0, .inl 0), (5, .ifCond .lt 18, 3, 23, 0, 0, .inl 0), (8, .iload_n 1, 1, 1, 0, 0, .inl 0), (9, .bipush 6, 2, 0, 0, 0, .inl (nI 6)), (11, .if_icmp .ge 12, 3, 23, 0, 0, .inl 0), (14, .aload_n 0, 1, 0, 0, 0, .inl 0), (15, .getfield 29, 3, 2, 3, 2, .inl 0), (18, .iload_n 1, 1, 1, 0, 0, .inl 0), (19, .iaload, 1, 0, 0, 0, .inl 0), (20, .goto 4, 3, 24, 0, 0, .inl 0)])
  | 23 => (24, [(23, .iconst 0, 1, 0, 0, 0, .inl (nI 0))])
  | 24 => (25, [(24, .ireturn, 1, 0, 0, 0, .inl 0)])
  | n => (n, [])
theorem ck_2003 : ∀ pc, px_cks pn_i2003 (bk_2003 pc).1 pc (bk_2003 pc).2 = true := by
  intro pc
  unfold bk_2003
  split <;> first | decide +kernel | simp [px_cks]
/-- NoThree$Council.survey()V -/
def bk_2004 : Nat → Nat × List px_E := fun pc => match pc with
  | 0 => (8, [(0, .aload_n 0, 1, 0, 0, 0, .inl 0), (1, .getfield 52, 3, 2, 9, 3, .inl 0), (4, .ifCond .eq 4, 3, 8, 0, 0, .inl 0), (7, .return_, 1, 0, 0, 0, .inl 0)])
  | 8 => (23, [(8, .aload_n 0, 1, 0, 0, 0, .inl 0), (9, .iconst 1, 1, 0, 0, 0, .inl (nI 1)), (10, .putfield 52, 3, 2, 9, 3, .inl 0), (13, .aload_n 0, 1, 0, 0, 0, .inl 0), (14, .aload_n 0, 1, 0, 0, 0, .inl 0), (15, .getfield 42, 3, 2, 6, 2, .inl 0), (18, .invokevirtual 59, 3, 2009, 2, 2, .inl 0), (21, .iconst 0, 1, 0, 0, 0, .inl (nI 0)), (22, .istore_n 1, 1, 1, 0, 0, .inl 0)])
  | 23 => (62, [(23, .iload_n 1, 1, 1, 0, 0, .inl 0), (24, .aload_n 0, 1, 0, 0, 0, .inl 0), (25, .getfield 38, 3, 2, 5, 2, .inl 0), (28, .getfield 63, 3, 10, 0, 0, .inl 0), (31, .if_icmp .ge 75, 3, 106, 0, 0, .inl 0), (34, .iload_n 1, 1, 1, 0, 0, .inl 0), (35, .bipush 6, 2, 0, 0, 0, .inl (nI 6)), (37, .if_icmp .ge 69, 3, 106, 0, 0, .inl 0), (40, .aload_n 0, 1, 0, 0, 0, .inl 0), (41, .aload_n 0, 1, 0, 0, 0, .inl 0), (42, .getfield 38, 3, 2, 5, 2, .inl 0), (45, .getfield 66, 3, 10, 2, 2, .inl 0), (48, .iload_n 1, 1, 1, 0, 0, .inl 0), (49, .iaload, 1, 0, 0, 0, .inl 0), (50, .invokevirtual 69, 3, 2010, 2, 2, .inl 0), (53, .aload_n 0, 1, 0, 0, 0, .inl 0), (54, .getfield 29, 3, 2, 3, 2, .inl 0), (57, .iload_n 1, 1, 1, 0, 0, .inl 0), (58, .iconst 0, 1, 0, 0, 0, .inl (nI 0)), (59, .iastore, 1, 0, 0, 0, .inl 0), (60, .iconst 0, 1, 0, 0, 0, .inl (nI 0)), (61, .istore_n 2, 1, 2, 0, 0, .inl 0)])
  | 62 => (94, [(62, .iload_n 2, 1, 2, 0, 0, .inl 0), (63, .aload_n 0, 1, 0, 0, 0, .inl 0), (64, .getfield 42, 3, 2, 6, 2, .inl 0), (67, .getfield 73, 3, 11, 0, 0, .inl 0), (70, .if_icmp .ge 30, 3, 100, 0, 0, .inl 0), (73, .aload_n 0, 1, 0, 0, 0, .inl 0), (74, .iload_n 1, 1, 1, 0, 0, .inl 0), (75, .iload_n 2, 1, 2, 0, 0, .inl 0), (76, .invokevirtual 76, 3, 2013, 3, 2, .inl 0), (79, .ifCond .eq 15, 3, 94, 0, 0, .inl 0), (82, .aload_n 0, 1, 0, 0, 0, .inl 0), (83, .getfield 29, 3, 2, 3, 2, .inl 0), (86, .iload_n 1, 1, 1, 0, 0, .inl 0), (87, .dup2, 1, 0, 0, 0, .inl 0), (88, .iaload, 1, 0, 0, 0, .inl 0), (89, .iconst 1, 1, 0, 0, 0, .inl (nI 1)), (90, .iload_n 2, 1, 2, 0, 0, .inl 0), (91, .ishl, 1, 0, 0, 0, .inl 0), (92, .ior, 1, 0, 0, 0, .inl 0), (93, .iastore, 1, 0, 0, 0, .inl 0)])
  | 94 => (100, [(94, .iinc 2 1, 3, 2, 0, 0, .inl (nI 1)), (97, .goto (-35), 3, 62, 0, 0, .inl 0)])
  | 100 => (106, [(100, .iinc 1 1, 3, 1, 0, 0, .inl (nI 1)), (103, .goto (-80), 3, 23, 0, 0, .inl 0)])
  | 106 => (107, [(106, .return_, 1, 0, 0, 0, .inl 0)])
  | n => (n, [])
theorem ck_2004 : ∀ pc, px_cks pn_i2004 (bk_2004 pc).1 pc (bk_2004 pc).2 = true := by
  intro pc
  unfold bk_2004
  split <;> first | decide +kernel | simp [px_cks]
/-- NoThree$Council.reasonAgainstJoin(II)I -/
def bk_2005 : Nat → Nat × List px_E := fun pc => match pc with
  | 0 => (14, [(0, .aload_n 0, 1, 0, 0, 0, .inl 0), (1, .getfield 42, 3, 2, 6, 2, .inl 0), (4, .iload_n 1, 1, 1, 0, 0, .inl 0), (5, .iload_n 2, 1, 2, 0, 0, .inl 0), (6, .invokevirtual 80, 3, 11003, 3, 11, .inl 0), (9, .ifCond .ne 5, 3, 14, 0, 0, .inl 0), (12, .iconst 1, 1, 0, 0, 0, .inl (nI 1)), (13, .ireturn, 1, 0, 0, 0, .inl 0)])
  | 14 => (26, [(14, .aload_n 0, 1, 0, 0, 0, .inl 0), (15, .getfield 42, 3, 2, 6, 2, .inl 0), (18, .iload_n 1, 1, 1, 0, 0, .inl 0), (19, .iload_n 2, 1, 2, 0, 0, .inl 0), (20, .invokevirtual 83, 3, 11006, 3, 11, .inl 0), (23, .ifCond .eq 5, 3, 28, 0, 0, .inl 0)])
  | 26 => (28, [(26, .iconst 2, 1, 0, 0, 0, .inl (nI 2)), (27, .ireturn, 1, 0, 0, 0, .inl 0)])
  | 28 => (48, [(28, .aload_n 0, 1, 0, 0, 0, .inl 0), (29, .getfield 42, 3, 2, 6, 2, .inl 0), (32, .iload_n 1, 1, 1, 0, 0, .inl 0), (33, .invokevirtual 86, 3, 11005, 2, 11, .inl 0), (36, .aload_n 0, 1, 0, 0, 0, .inl 0), (37, .getfield 42, 3, 2, 6, 2, .inl 0), (40, .iload_n 2, 1, 2, 0, 0, .inl 0), (41, .invokevirtual 86, 3, 11005, 2, 11, .inl 0), (44, .iand, 1, 0, 0, 0, .inl 0), (45, .ifCond .eq 5, 3, 50, 0, 0, .inl 0)])
  | 48 => (50, [(48, .iconst 3, 1, 0, 0, 0, .inl (nI 3)), (49, .ireturn, 1, 0, 0, 0, .inl 0)])
  | 50 => (62, [(50, .aload_n 0, 1, 0, 0, 0, .inl 0), (51, .getfield 38, 3, 2, 5, 2, .inl 0), (54, .getfield 63, 3, 10, 0, 0, .inl 0), (57, .ifCond .ne 5, 3, 62, 0, 0, .inl 0), (60, .iconst 0, 1, 0, 0, 0, .inl (nI 0)), (61, .ireturn, 1, 0, 0, 0, .inl 0)])
  | 62 => (77, [(62, .aload_n 0, 1, 0, 0, 0, .inl 0), (63, .invokevirtual 56, 3, 2004, 1, 2, .inl 0), (66, .aload_n 0, 1, 0, 0, 0, .inl 0), (67, .getfield 21, 3, 2, 1, 2, .inl 0), (70, .aload_n 0, 1, 0, 0, 0, .inl 0), (71, .getfield 42, 3, 2, 6, 2, .inl 0), (74, .invokevirtual 90, 3, 11007, 2, 11, .inl 0)])
  | 77 => (94, [(77, .aload_n 0, 1, 0, 0, 0, .inl 0), (78, .getfield 21, 3, 2, 1, 2, .inl 0), (81, .iload_n 1, 1, 1, 0, 0, .inl 0), (82, .iload_n 2, 1, 2, 0, 0, .inl 0), (83, .invokevirtual 93, 3, 11009, 3, 11, .inl 0), (86, .aload_n 0, 1, 0, 0, 0, .inl 0), (87, .aload_n 0, 1, 0, 0, 0, .inl 0), (88, .getfield 21, 3, 2, 1, 2, .inl 0), (91, .invokevirtual 59, 3, 2009, 2, 2, .inl 0)])
  | 94 => (105, [(94, .aload_n 0, 1, 0, 0, 0, .inl 0), (95, .invokevirtual 97, 3, 2008, 1, 2, .inl 0), (98, .ifCond .eq 7, 3, 105, 0, 0, .inl 0), (101, .iconst 0, 1, 0, 0, 0, .inl (nI 0)), (102, .goto 4, 3, 106, 0, 0, .inl 0)])
  | 105 => (106, [(105, .iconst 4, 1, 0, 0, 0, .inl (nI 4))])
  | 106 => (107, [(106, .ireturn, 1, 0, 0, 0, .inl 0)])
  | n => (n, [])
theorem ck_2005 : ∀ pc, px_cks pn_i2005 (bk_2005 pc).1 pc (bk_2005 pc).2 = true := by
  intro pc
  unfold bk_2005
  split <;> first | decide +kernel | simp [px_cks]
/-- NoThree$Council.reasonAgainstEntry(I)I -/
def bk_2006 : Nat → Nat × List px_E := fun pc => match pc with
  | 0 => (16, [(0, .iload_n 1, 1, 1, 0, 0, .inl 0), (1, .aload_n 0, 1, 0, 0, 0, .inl 0), (2, .getfield 42, 3, 2, 6, 2, .inl 0), (5, .invokevirtual 101, 3, 11004, 1, 11, .inl 0), (8, .iconst (-1), 1, 0, 0, 0, .inl (-1)), (9, .ixor, 1, 0, 0, 0, .inl 0), (10, .iand, 1, 0, 0, 0, .inl 0), (11, .ifCond .eq 5, 3, 16, 0, 0, .inl 0), (14, .iconst 1, 1, 0, 0, 0, .inl (nI 1)), (15, .ireturn, 1, 0, 0, 0, .inl 0)])
  | 16 => (31, [(16, .aload_n 0, 1, 0, 0, 0, .inl 0), (17, .getfield 42, 3, 2, 6, 2, .inl 0), (20, .getfield 73, 3, 11, 0, 0, .inl 0), (23, .bipush 11, 2, 0, 0, 0, .inl (nI 11)), (25, .if_icmp .lt 6, 3, 31, 0, 0, .inl 0), (28, .bipush 6, 2, 0, 0, 0, .inl (nI 6)), (30, .ireturn, 1, 0, 0, 0, .inl 0)])
  | 31 => (44, [(31, .aload_n 0, 1, 0, 0, 0, .inl 0), (32, .getfield 42, 3, 2, 6, 2, .inl 0), (35, .iload_n 1, 1, 1, 0, 0, .inl 0), (36, .invokevirtual 105, 3, 11016, 2, 11, .inl 0), (39, .iload_n 1, 1, 1, 0, 0, .inl 0), (40, .iand, 1, 0, 0, 0, .inl 0), (41, .ifCond .eq 5, 3, 46, 0, 0, .inl 0)])
  | 44 => (46, [(44, .iconst 3, 1, 0, 0, 0, .inl (nI 3)), (45, .ireturn, 1, 0, 0, 0, .inl 0)])
  | 46 => (58, [(46, .aload_n 0, 1, 0, 0, 0, .inl 0), (47, .getfield 38, 3, 2, 5, 2, .inl 0), (50, .getfield 63, 3, 10, 0, 0, .inl 0), (53, .ifCond .ne 5, 3, 58, 0, 0, .inl 0), (56, .iconst 0, 1, 0, 0, 0, .inl (nI 0)), (57, .ireturn, 1, 0, 0, 0, .inl 0)])
  | 58 => (73, [(58, .aload_n 0, 1, 0, 0, 0, .inl 0), (59, .invokevirtual 56, 3, 2004, 1, 2, .inl 0), (62, .aload_n 0, 1, 0, 0, 0, .inl 0), (63, .getfield 21, 3, 2, 1, 2, .inl 0), (66, .aload_n 0, 1, 0, 0, 0, .inl 0), (67, .getfield 42, 3, 2, 6, 2, .inl 0), (70, .invokevirtual 90, 3, 11007, 2, 11, .inl 0)])
  | 73 => (103, [(73, .aload_n 0, 1, 0, 0, 0, .inl 0), (74, .getfield 21, 3, 2, 1, 2, .inl 0), (77, .iload_n 1, 1, 1, 0, 0, .inl 0), (78, .invokevirtual 108, 3, 11011, 2, 11, .inl 0), (81, .aload_n 0, 1, 0, 0, 0, .inl 0), (82, .aload_n 0, 1, 0, 0, 0, .inl 0), (83, .getfield 21, 3, 2, 1, 2, .inl 0), (86, .invokevirtual 59, 3, 2009, 2, 2, .inl 0), (89, .aload_n 0, 1, 0, 0, 0, .inl 0), (90, .aload_n 0, 1, 0, 0, 0, .inl 0), (91, .getfield 42, 3, 2, 6, 2, .inl 0), (94, .getfield 73, 3, 11, 0, 0, .inl 0), (97, .invokevirtual 111, 3, 2007, 2, 2, .inl 0), (100, .ifCond .eq 14, 3, 114, 0, 0, .inl 0)])
  | 103 => (114, [(103, .aload_n 0, 1, 0, 0, 0, .inl 0), (104, .invokevirtual 97, 3, 2008, 1, 2, .inl 0), (107, .ifCond .eq 7, 3, 114, 0, 0, .inl 0), (110, .iconst 0, 1, 0, 0, 0, .inl (nI 0)), (111, .goto 4, 3, 115, 0, 0, .inl 0)])
  | 114 => (115, [(114, .iconst 4, 1, 0, 0, 0, .inl (nI 4))])
  | 115 => (116, [(115, .ireturn, 1, 0, 0, 0, .inl 0)])
  | n => (n, [])
theorem ck_2006 : ∀ pc, px_cks pn_i2006 (bk_2006 pc).1 pc (bk_2006 pc).2 = true := by
  intro pc
  unfold bk_2006
  split <;> first | decide +kernel | simp [px_cks]
/-- NoThree$Council.suits(I)Z -/
def bk_2007 : Nat → Nat × List px_E := fun pc => match pc with
  | 0 => (2, [(0, .iconst 0, 1, 0, 0, 0, .inl (nI 0)), (1, .istore_n 2, 1, 2, 0, 0, .inl 0)])
  | 2 => (43, [(2, .iload_n 2, 1, 2, 0, 0, .inl 0), (3, .aload_n 0, 1, 0, 0, 0, .inl 0), (4, .getfield 38, 3, 2, 5, 2, .inl 0), (7, .getfield 63, 3, 10, 0, 0, .inl 0), (10, .if_icmp .ge 39, 3, 49, 0, 0, .inl 0), (13, .iload_n 2, 1, 2, 0, 0, .inl 0), (14, .bipush 6, 2, 0, 0, 0, .inl (nI 6)), (16, .if_icmp .ge 33, 3, 49, 0, 0, .inl 0), (19, .aload_n 0, 1, 0, 0, 0, .inl 0), (20, .aload_n 0, 1, 0, 0, 0, .inl 0), (21, .getfield 38, 3, 2, 5, 2, .inl 0), (24, .getfield 66, 3, 10, 2, 2, .inl 0), (27, .iload_n 2, 1, 2, 0, 0, .inl 0), (28, .iaload, 1, 0, 0, 0, .inl 0), (29, .invokevirtual 69, 3, 2010, 2, 2, .inl 0), (32, .aload_n 0, 1, 0, 0, 0, .inl 0), (33, .iload_n 2, 1, 2, 0, 0, .inl 0), (34, .iload_n 1, 1, 1, 0, 0, .inl 0), (35, .invokevirtual 76, 3, 2013, 3, 2, .inl 0), (38, .ifCond .ne 5, 3, 43, 0, 0, .inl 0), (41, .iconst 0, 1, 0, 0, 0, .inl (nI 0)), (42, .ireturn, 1, 0, 0, 0, .inl 0)])
  | 43 => (49, [(43, .iinc 2 1, 3, 2, 0, 0, .inl (nI 1)), (46, .goto (-44), 3, 2, 0, 0, .inl 0)])
  | 49 => (51, [(49, .iconst 1, 1, 0, 0, 0, .inl (nI 1)), (50, .ireturn, 1, 0, 0, 0, .inl 0)])
  | n => (n, [])
theorem ck_2007 : ∀ pc, px_cks pn_i2007 (bk_2007 pc).1 pc (bk_2007 pc).2 = true := by
  intro pc
  unfold bk_2007
  split <;> first | decide +kernel | simp [px_cks]
/-- NoThree$Council.keepsWhatHolds()Z -/
def bk_2008 : Nat → Nat × List px_E := fun pc => match pc with
  | 0 => (2, [(0, .iconst 0, 1, 0, 0, 0, .inl (nI 0)), (1, .istore_n 1, 1, 1, 0, 0, .inl 0)])
  | 2 => (34, [(2, .iload_n 1, 1, 1, 0, 0, .inl 0), (3, .aload_n 0, 1, 0, 0, 0, .inl 0), (4, .getfield 38, 3, 2, 5, 2, .inl 0), (7, .getfield 63, 3, 10, 0, 0, .inl 0), (10, .if_icmp .ge 71, 3, 81, 0, 0, .inl 0), (13, .iload_n 1, 1, 1, 0, 0, .inl 0), (14, .bipush 6, 2, 0, 0, 0, .inl (nI 6)), (16, .if_icmp .ge 65, 3, 81, 0, 0, .inl 0), (19, .aload_n 0, 1, 0, 0, 0, .inl 0), (20, .aload_n 0, 1, 0, 0, 0, .inl 0), (21, .getfield 38, 3, 2, 5, 2, .inl 0), (24, .getfield 66, 3, 10, 2, 2, .inl 0), (27, .iload_n 1, 1, 1, 0, 0, .inl 0), (28, .iaload, 1, 0, 0, 0, .inl 0), (29, .invokevirtual 69, 3, 2010, 2, 2, .inl 0), (32, .iconst 0, 1, 0, 0, 0, .inl (nI 0)), (33, .istore_n 2, 1, 2, 0, 0, .inl 0)])
  | 34 => (69, [(34, .iload_n 2, 1, 2, 0, 0, .inl 0), (35, .aload_n 0, 1, 0, 0, 0, .inl 0), (36, .getfield 42, 3, 2, 6, 2, .inl 0), (39, .getfield 73, 3, 11, 0, 0, .inl 0), (42, .if_icmp .ge 33, 3, 75, 0, 0, .inl 0), (45, .aload_n 0, 1, 0, 0, 0, .inl 0), (46, .getfield 29, 3, 2, 3, 2, .inl 0), (49, .iload_n 1, 1, 1, 0, 0, .inl 0), (50, .iaload, 1, 0, 0, 0, .inl 0), (51, .iconst 1, 1, 0, 0, 0, .inl (nI 1)), (52, .iload_n 2, 1, 2, 0, 0, .inl 0), (53, .ishl, 1, 0, 0, 0, .inl 0), (54, .iand, 1, 0, 0, 0, .inl 0), (55, .ifCond .eq 14, 3, 69, 0, 0, .inl 0), (58, .aload_n 0, 1, 0, 0, 0, .inl 0), (59, .iload_n 1, 1, 1, 0, 0, .inl 0), (60, .iload_n 2, 1, 2, 0, 0, .inl 0), (61, .invokevirtual 76, 3, 2013, 3, 2, .inl 0), (64, .ifCond .ne 5, 3, 69, 0, 0, .inl 0), (67, .iconst 0, 1, 0, 0, 0, .inl (nI 0)), (68, .ireturn, 1, 0, 0, 0, .inl 0)])
  | 69 => (75, [(69, .iinc 2 1, 3, 2, 0, 0, .inl (nI 1)), (72, .goto (-38), 3, 34, 0, 0, .inl 0)])
  | 75 => (81, [(75, .iinc 1 1, 3, 1, 0, 0, .inl (nI 1)), (78, .goto (-76), 3, 2, 0, 0, .inl 0)])
  | 81 => (83, [(81, .iconst 1, 1, 0, 0, 0, .inl (nI 1)), (82, .ireturn, 1, 0, 0, 0, .inl 0)])
  | n => (n, [])
theorem ck_2008 : ∀ pc, px_cks pn_i2008 (bk_2008 pc).1 pc (bk_2008 pc).2 = true := by
  intro pc
  unfold bk_2008
  split <;> first | decide +kernel | simp [px_cks]
/-- NoThree$Council.turnTo(LNoThree$Town;)V -/
def bk_2009 : Nat → Nat × List px_E := fun pc => match pc with
  | 0 => (11, [(0, .aload_n 0, 1, 0, 0, 0, .inl 0), (1, .aload_n 1, 1, 1, 0, 0, .inl 0), (2, .putfield 45, 3, 2, 7, 2, .inl 0), (5, .aload_n 0, 1, 0, 0, 0, .inl 0), (6, .iconst 0, 1, 0, 0, 0, .inl (nI 0)), (7, .putfield 48, 3, 2, 8, 0, .inl 0), (10, .return_, 1, 0, 0, 0, .inl 0)])
  | n => (n, [])
theorem ck_2009 : ∀ pc, px_cks pn_i2009 (bk_2009 pc).1 pc (bk_2009 pc).2 = true := by
  intro pc
  unfold bk_2009
  split <;> first | decide +kernel | simp [px_cks]
/-- NoThree$Council.findMeanings(I)V -/
def bk_2010 : Nat → Nat × List px_E := fun pc => match pc with
  | 0 => (9, [(0, .iload_n 1, 1, 1, 0, 0, .inl 0), (1, .aload_n 0, 1, 0, 0, 0, .inl 0), (2, .getfield 48, 3, 2, 8, 0, .inl 0), (5, .iconst (-1), 1, 0, 0, 0, .inl (-1)), (6, .ixor, 1, 0, 0, 0, .inl 0), (7, .iand, 1, 0, 0, 0, .inl 0), (8, .istore_n 2, 1, 2, 0, 0, .inl 0)])
  | 9 => (21, [(9, .aload_n 0, 1, 0, 0, 0, .inl 0), (10, .dup, 1, 0, 0, 0, .inl 0), (11, .getfield 48, 3, 2, 8, 0, .inl 0), (14, .iload_n 1, 1, 1, 0, 0, .inl 0), (15, .ior, 1, 0, 0, 0, .inl 0), (16, .putfield 48, 3, 2, 8, 0, .inl 0), (19, .iconst 0, 1, 0, 0, 0, .inl (nI 0)), (20, .istore_n 3, 1, 3, 0, 0, .inl 0)])
  | 21 => (42, [(21, .iload_n 3, 1, 3, 0, 0, .inl 0), (22, .bipush 9, 2, 0, 0, 0, .inl (nI 9)), (24, .if_icmp .ge 224, 3, 248, 0, 0, .inl 0), (27, .iload_n 2, 1, 2, 0, 0, .inl 0), (28, .ifCond .eq 220, 3, 248, 0, 0, .inl 0), (31, .iload_n 2, 1, 2, 0, 0, .inl 0), (32, .iconst 1, 1, 0, 0, 0, .inl (nI 1)), (33, .iload_n 3, 1, 3, 0, 0, .inl 0), (34, .ishl, 1, 0, 0, 0, .inl 0), (35, .iand, 1, 0, 0, 0, .inl 0), (36, .ifCond .ne 6, 3, 42, 0, 0, .inl 0), (39, .goto 203, 3, 242, 0, 0, .inl 0)])
  | 42 => (48, [(42, .iload_n 3, 1, 3, 0, 0, .inl 0), (43, .bipush 11, 2, 0, 0, 0, .inl (nI 11)), (45, .imul, 1, 0, 0, 0, .inl 0), (46, .istore 4, 2, 4, 0, 0, .inl 0)])
  | 48 => (88, [(48, .sipush 1000, 3, 0, 0, 0, .inl (nI 1000)), (51, .iload_n 3, 1, 3, 0, 0, .inl 0), (52, .iadd, 1, 0, 0, 0, .inl 0), (53, .tableswitch 147 1004 1008 #[35, 52, 69, 86, 114], 35, 3, 0, 0, .inl 0)])
  | 88 => (105, [(88, .aload_n 0, 1, 0, 0, 0, .inl 0), (89, .getfield 32, 3, 2, 4, 2, .inl 0), (92, .iload 4, 2, 4, 0, 0, .inl 0), (94, .aload_n 0, 1, 0, 0, 0, .inl 0), (95, .getfield 45, 3, 2, 7, 2, .inl 0), (98, .getfield 73, 3, 11, 0, 0, .inl 0), (101, .iastore, 1, 0, 0, 0, .inl 0), (102, .goto 140, 3, 242, 0, 0, .inl 0)])
  | 105 => (122, [(105, .aload_n 0, 1, 0, 0, 0, .inl 0), (106, .getfield 32, 3, 2, 4, 2, .inl 0), (109, .iload 4, 2, 4, 0, 0, .inl 0), (111, .aload_n 0, 1, 0, 0, 0, .inl 0), (112, .getfield 45, 3, 2, 7, 2, .inl 0), (115, .invokevirtual 115, 3, 11015, 1, 11, .inl 0), (118, .iastore, 1, 0, 0, 0, .inl 0), (119, .goto 123, 3, 242, 0, 0, .inl 0)])
  | 122 => (139, [(122, .aload_n 0, 1, 0, 0, 0, .inl 0), (123, .getfield 32, 3, 2, 4, 2, .inl 0), (126, .iload 4, 2, 4, 0, 0, .inl 0), (128, .aload_n 0, 1, 0, 0, 0, .inl 0), (129, .getfield 45, 3, 2, 7, 2, .inl 0), (132, .invokestatic 118, 3, 3008, 1, 0, .inl 0), (135, .iastore, 1, 0, 0, 0, .inl 0), (136, .goto 106, 3, 242, 0, 0, .inl 0)])
  | 139 => (167, [(139, .aload_n 0, 1, 0, 0, 0, .inl 0), (140, .getfield 32, 3, 2, 4, 2, .inl 0), (143, .iload 4, 2, 4, 0, 0, .inl 0), (145, .aload_n 0, 1, 0, 0, 0, .inl 0), (146, .getfield 12, 3, 2, 0, 2, .inl 0), (149, .aload_n 0, 1, 0, 0, 0, .inl 0), (150, .getfield 45, 3, 2, 7, 2, .inl 0), (153, .aload_n 0, 1, 0, 0, 0, .inl 0), (154, .getfield 45, 3, 2, 7, 2, .inl 0), (157, .invokevirtual 101, 3, 11004, 1, 11, .inl 0), (160, .invokevirtual 124, 3, 8002, 3, 8, .inl 0), (163, .iastore, 1, 0, 0, 0, .inl 0), (164, .goto 78, 3, 242, 0, 0, .inl 0)])
  | 167 => (195, [(167, .aload_n 0, 1, 0, 0, 0, .inl 0), (168, .getfield 32, 3, 2, 4, 2, .inl 0), (171, .iload 4, 2, 4, 0, 0, .inl 0), (173, .aload_n 0, 1, 0, 0, 0, .inl 0), (174, .getfield 45, 3, 2, 7, 2, .inl 0), (177, .aload_n 0, 1, 0, 0, 0, .inl 0), (178, .getfield 45, 3, 2, 7, 2, .inl 0), (181, .invokevirtual 101, 3, 11004, 1, 11, .inl 0), (184, .invokevirtual 128, 3, 11031, 2, 11, .inl 0), (187, .iconst (-1), 1, 0, 0, 0, .inl (-1)), (188, .if_icmp .ne 7, 3, 195, 0, 0, .inl 0), (191, .iconst 0, 1, 0, 0, 0, .inl (nI 0)), (192, .goto 4, 3, 196, 0, 0, .inl 0)])
  | 195 => (196, [(195, .iconst 1, 1, 0, 0, 0, .inl (nI 1))])
  | 196 => (200, [(196, .iastore, 1, 0, 0, 0, .inl 0), (197, .goto 45, 3, 242, 0, 0, .inl 0)])
  | 200 => (203, [(200, .iconst 0, 1, 0, 0, 0, .inl (nI 0)), (201, .istore 5, 2, 5, 0, 0, .inl 0)])
  | 203 => (236, [(203, .iload 5, 2, 5, 0, 0, .inl 0), (205, .aload_n 0, 1, 0, 0, 0, .inl 0), (206, .getfield 45, 3, 2, 7, 2, .inl 0), (209, .getfield 73, 3, 11, 0, 0, .inl 0), (212, .if_icmp .ge 30, 3, 242, 0, 0, .inl 0), (215, .aload_n 0, 1, 0, 0, 0, .inl 0), (216, .getfield 32, 3, 2, 4, 2, .inl 0), (219, .iload 4, 2, 4, 0, 0, .inl 0), (221, .iload 5, 2, 5, 0, 0, .inl 0), (223, .iadd, 1, 0, 0, 0, .inl 0), (224, .aload_n 0, 1, 0, 0, 0, .inl 0), (225, .sipush 1000, 3, 0, 0, 0, .inl (nI 1000)), (228, .iload_n 3, 1, 3, 0, 0, .inl 0), (229, .iadd, 1, 0, 0, 0, .inl 0), (230, .iload 5, 2, 5, 0, 0, .inl 0), (232, .invokevirtual 131, 3, 2011, 3, 2, .inl 0), (235, .iastore, 1, 0, 0, 0, .inl 0)])
  | 236 => (242, [(236, .iinc 5 1, 3, 5, 0, 0, .inl (nI 1)), (239, .goto (-36), 3, 203, 0, 0, .inl 0)])
  | 242 => (248, [(242, .iinc 3 1, 3, 3, 0, 0, .inl (nI 1)), (245, .goto (-224), 3, 21, 0, 0, .inl 0)])
  | 248 => (249, [(248, .return_, 1, 0, 0, 0, .inl 0)])
  | n => (n, [])
theorem ck_2010 : ∀ pc, px_cks pn_i2010 (bk_2010 pc).1 pc (bk_2010 pc).2 = true := by
  intro pc
  unfold bk_2010
  split <;> first | decide +kernel | simp [px_cks]
/-- NoThree$Council.ofHouse(II)I -/
def bk_2011 : Nat → Nat × List px_E := fun pc => match pc with
  | 0 => (28, [(0, .iload_n 1, 1, 1, 0, 0, .inl 0), (1, .tableswitch 54 1000 1002 #[27, 36, 45], 27, 4, 0, 0, .inl 0)])
  | 28 => (37, [(28, .aload_n 0, 1, 0, 0, 0, .inl 0), (29, .getfield 45, 3, 2, 7, 2, .inl 0), (32, .iload_n 2, 1, 2, 0, 0, .inl 0), (33, .invokevirtual 135, 3, 11014, 2, 11, .inl 0), (36, .ireturn, 1, 0, 0, 0, .inl 0)])
  | 37 => (46, [(37, .aload_n 0, 1, 0, 0, 0, .inl 0), (38, .getfield 45, 3, 2, 7, 2, .inl 0), (41, .iload_n 2, 1, 2, 0, 0, .inl 0), (42, .invokevirtual 138, 3, 11022, 2, 11, .inl 0), (45, .ireturn, 1, 0, 0, 0, .inl 0)])
  | 46 => (55, [(46, .aload_n 0, 1, 0, 0, 0, .inl 0), (47, .getfield 45, 3, 2, 7, 2, .inl 0), (50, .iload_n 2, 1, 2, 0, 0, .inl 0), (51, .invokevirtual 141, 3, 11027, 2, 11, .inl 0), (54, .ireturn, 1, 0, 0, 0, .inl 0)])
  | 55 => (64, [(55, .aload_n 0, 1, 0, 0, 0, .inl 0), (56, .getfield 45, 3, 2, 7, 2, .inl 0), (59, .iload_n 2, 1, 2, 0, 0, .inl 0), (60, .invokevirtual 144, 3, 11019, 2, 11, .inl 0), (63, .ireturn, 1, 0, 0, 0, .inl 0)])
  | n => (n, [])
theorem ck_2011 : ∀ pc, px_cks pn_i2011 (bk_2011 pc).1 pc (bk_2011 pc).2 = true := by
  intro pc
  unfold bk_2011
  split <;> first | decide +kernel | simp [px_cks]
/-- NoThree$Council.meaning(II)I -/
def bk_2012 : Nat → Nat × List px_E := fun pc => match pc with
  | 0 => (19, [(0, .iload_n 1, 1, 1, 0, 0, .inl 0), (1, .sipush 1000, 3, 0, 0, 0, .inl (nI 1000)), (4, .isub, 1, 0, 0, 0, .inl 0), (5, .bipush 11, 2, 0, 0, 0, .inl (nI 11)), (7, .imul, 1, 0, 0, 0, .inl 0), (8, .iload_n 1, 1, 1, 0, 0, .inl 0), (9, .sipush 1004, 3, 0, 0, 0, .inl (nI 1004)), (12, .if_icmp .ge 7, 3, 19, 0, 0, .inl 0), (15, .iload_n 2, 1, 2, 0, 0, .inl 0), (16, .goto 4, 3, 20, 0, 0, .inl 0)])
  | 19 => (20, [(19, .iconst 0, 1, 0, 0, 0, .inl (nI 0))])
  | 20 => (22, [(20, .iadd, 1, 0, 0, 0, .inl 0), (21, .istore_n 3, 1, 3, 0, 0, .inl 0)])
  | 22 => (44, [(22, .iload_n 3, 1, 3, 0, 0, .inl 0), (23, .ifCond .lt 21, 3, 44, 0, 0, .inl 0), (26, .iload_n 3, 1, 3, 0, 0, .inl 0), (27, .aload_n 0, 1, 0, 0, 0, .inl 0), (28, .getfield 32, 3, 2, 4, 2, .inl 0), (31, .arraylength, 1, 0, 0, 0, .inl 0), (32, .if_icmp .ge 12, 3, 44, 0, 0, .inl 0), (35, .aload_n 0, 1, 0, 0, 0, .inl 0), (36, .getfield 32, 3, 2, 4, 2, .inl 0), (39, .iload_n 3, 1, 3, 0, 0, .inl 0), (40, .iaload, 1, 0, 0, 0, .inl 0), (41, .goto 4, 3, 45, 0, 0, .inl 0)])
  | 44 => (45, [(44, .iconst 0, 1, 0, 0, 0, .inl (nI 0))])
  | 45 => (46, [(45, .ireturn, 1, 0, 0, 0, .inl 0)])
  | n => (n, [])
theorem ck_2012 : ∀ pc, px_cks pn_i2012 (bk_2012 pc).1 pc (bk_2012 pc).2 = true := by
  intro pc
  unfold bk_2012
  split <;> first | decide +kernel | simp [px_cks]
/-- NoThree$Council.standsFor(II)Z -/
def bk_2013 : Nat → Nat × List px_E := fun pc => match pc with
  | 0 => (10, [(0, .iload_n 1, 1, 1, 0, 0, .inl 0), (1, .ifCond .lt 9, 3, 10, 0, 0, .inl 0), (4, .iload_n 1, 1, 1, 0, 0, .inl 0), (5, .bipush 6, 2, 0, 0, 0, .inl (nI 6)), (7, .if_icmp .lt 5, 3, 12, 0, 0, .inl 0)])
  | 10 => (12, [(10, .iconst 0, 1, 0, 0, 0, .inl (nI 0)), (11, .ireturn, 1, 0, 0, 0, .inl 0)])
  | 12 => (30, [(12, .aload_n 0, 1, 0, 0, 0, .inl 0), (13, .getfield 38, 3, 2, 5, 2, .inl 0), (16, .getfield 147, 3, 10, 1, 2, .inl 0), (19, .iload_n 1, 1, 1, 0, 0, .inl 0), (20, .iconst 1, 1, 0, 0, 0, .inl (nI 1)), (21, .iadd, 1, 0, 0, 0, .inl 0), (22, .iaload, 1, 0, 0, 0, .inl 0), (23, .sipush 900, 3, 0, 0, 0, .inl (nI 900)), (26, .invokestatic 150, 3, 20001, 2, 2, .inl 0), (29, .istore_n 3, 1, 3, 0, 0, .inl 0)])
  | 30 => (48, [(30, .iconst 0, 1, 0, 0, 0, .inl (nI 0)), (31, .istore 4, 2, 4, 0, 0, .inl 0), (33, .aload_n 0, 1, 0, 0, 0, .inl 0), (34, .getfield 38, 3, 2, 5, 2, .inl 0), (37, .getfield 147, 3, 10, 1, 2, .inl 0), (40, .iload_n 1, 1, 1, 0, 0, .inl 0), (41, .iaload, 1, 0, 0, 0, .inl 0), (42, .iconst 0, 1, 0, 0, 0, .inl (nI 0)), (43, .invokestatic 155, 3, 20000, 2, 1, .inl 0), (46, .istore 5, 2, 5, 0, 0, .inl 0)])
  | 48 => (74, [(48, .iload 5, 2, 5, 0, 0, .inl 0), (50, .iload_n 3, 1, 3, 0, 0, .inl 0), (51, .if_icmp .ge 144, 3, 195, 0, 0, .inl 0), (54, .aload_n 0, 1, 0, 0, 0, .inl 0), (55, .getfield 38, 3, 2, 5, 2, .inl 0), (58, .getfield 158, 3, 10, 3, 2, .inl 0), (61, .iload 5, 2, 5, 0, 0, .inl 0), (63, .iaload, 1, 0, 0, 0, .inl 0), (64, .istore 6, 2, 6, 0, 0, .inl 0), (66, .iload 6, 2, 6, 0, 0, .inl 0), (68, .sipush 2000, 3, 0, 0, 0, .inl (nI 2000)), (71, .if_icmp .ge 43, 3, 114, 0, 0, .inl 0)])
  | 74 => (100, [(74, .iload 4, 2, 4, 0, 0, .inl 0), (76, .bipush 64, 2, 0, 0, 0, .inl (nI 64)), (78, .if_icmp .ge 111, 3, 189, 0, 0, .inl 0), (81, .aload_n 0, 1, 0, 0, 0, .inl 0), (82, .getfield 25, 3, 2, 2, 2, .inl 0), (85, .iload 4, 2, 4, 0, 0, .inl 0), (87, .iload 6, 2, 6, 0, 0, .inl 0), (89, .sipush 1000, 3, 0, 0, 0, .inl (nI 1000)), (92, .if_icmp .ge 8, 3, 100, 0, 0, .inl 0), (95, .iload 6, 2, 6, 0, 0, .inl 0), (97, .goto 10, 3, 107, 0, 0, .inl 0)])
  | 100 => (107, [(100, .aload_n 0, 1, 0, 0, 0, .inl 0), (101, .iload 6, 2, 6, 0, 0, .inl 0), (103, .iload_n 2, 1, 2, 0, 0, .inl 0), (104, .invokevirtual 161, 3, 2012, 3, 2, .inl 0)])
  | 107 => (108, [(107, .iastore, 1, 0, 0, 0, .inl 0)])
  | 108 => (114, [(108, .iinc 4 1, 3, 4, 0, 0, .inl (nI 1)), (111, .goto 78, 3, 189, 0, 0, .inl 0)])
  | 114 => (150, [(114, .iload 6, 2, 6, 0, 0, .inl 0), (116, .sipush 2006, 3, 0, 0, 0, .inl (nI 2006)), (119, .if_icmp .ne 31, 3, 150, 0, 0, .inl 0), (122, .iload 4, 2, 4, 0, 0, .inl 0), (124, .ifCond .le 65, 3, 189, 0, 0, .inl 0), (127, .aload_n 0, 1, 0, 0, 0, .inl 0), (128, .getfield 25, 3, 2, 2, 2, .inl 0), (131, .iload 4, 2, 4, 0, 0, .inl 0), (133, .iconst 1, 1, 0, 0, 0, .inl (nI 1)), (134, .isub, 1, 0, 0, 0, .inl 0), (135, .iconst 1, 1, 0, 0, 0, .inl (nI 1)), (136, .aload_n 0, 1, 0, 0, 0, .inl 0), (137, .getfield 25, 3, 2, 2, 2, .inl 0), (140, .iload 4, 2, 4, 0, 0, .inl 0), (142, .iconst 1, 1, 0, 0, 0, .inl (nI 1)), (143, .isub, 1, 0, 0, 0, .inl 0), (144, .iaload, 1, 0, 0, 0, .inl 0), (145, .isub, 1, 0, 0, 0, .inl 0), (146, .iastore, 1, 0, 0, 0, .inl 0), (147, .goto 42, 3, 189, 0, 0, .inl 0)])
  | 150 => (189, [(150, .iload 4, 2, 4, 0, 0, .inl 0), (152, .iconst 1, 1, 0, 0, 0, .inl (nI 1)), (153, .if_icmp .le 36, 3, 189, 0, 0, .inl 0), (156, .iinc 4 (-1), 3, 4, 0, 0, .inl (-1)), (159, .aload_n 0, 1, 0, 0, 0, .inl 0), (160, .getfield 25, 3, 2, 2, 2, .inl 0), (163, .iload 4, 2, 4, 0, 0, .inl 0), (165, .iconst 1, 1, 0, 0, 0, .inl (nI 1)), (166, .isub, 1, 0, 0, 0, .inl 0), (167, .iload 6, 2, 6, 0, 0, .inl 0), (169, .aload_n 0, 1, 0, 0, 0, .inl 0), (170, .getfield 25, 3, 2, 2, 2, .inl 0), (173, .iload 4, 2, 4, 0, 0, .inl 0), (175, .iconst 1, 1, 0, 0, 0, .inl (nI 1)), (176, .isub, 1, 0, 0, 0, .inl 0), (177, .iaload, 1, 0, 0, 0, .inl 0), (178, .aload_n 0, 1, 0, 0, 0, .inl 0), (179, .getfield 25, 3, 2, 2, 2, .inl 0), (182, .iload 4, 2, 4, 0, 0, .inl 0), (184, .iaload, 1, 0, 0, 0, .inl 0), (185, .invokestatic 164, 3, 2014, 3, 0, .inl 0), (188, .iastore, 1, 0, 0, 0, .inl 0)])
  | 189 => (195, [(189, .iinc 5 1, 3, 5, 0, 0, .inl (nI 1)), (192, .goto (-144), 3, 48, 0, 0, .inl 0)])
  | 195 => (213, [(195, .iload 4, 2, 4, 0, 0, .inl 0), (197, .ifCond .le 16, 3, 213, 0, 0, .inl 0), (200, .aload_n 0, 1, 0, 0, 0, .inl 0), (201, .getfield 25, 3, 2, 2, 2, .inl 0), (204, .iconst 0, 1, 0, 0, 0, .inl (nI 0)), (205, .iaload, 1, 0, 0, 0, .inl 0), (206, .ifCond .eq 7, 3, 213, 0, 0, .inl 0), (209, .iconst 1, 1, 0, 0, 0, .inl (nI 1)), (210, .goto 4, 3, 214, 0, 0, .inl 0)])
  | 213 => (214, [(213, .iconst 0, 1, 0, 0, 0, .inl (nI 0))])
  | 214 => (215, [(214, .ireturn, 1, 0, 0, 0, .inl 0)])
  | n => (n, [])
theorem ck_2013 : ∀ pc, px_cks pn_i2013 (bk_2013 pc).1 pc (bk_2013 pc).2 = true := by
  intro pc
  unfold bk_2013
  split <;> first | decide +kernel | simp [px_cks]
/-- NoThree$Council.worked(III)I -/
def bk_2014 : Nat → Nat × List px_E := fun pc => match pc with
  | 0 => (48, [(0, .iload_n 0, 1, 0, 0, 0, .inl 0), (1, .tableswitch 111 2000 2007 #[47, 56, 65, 74, 85, 96, 111, 107], 47, 5, 0, 0, .inl 0)])
  | 48 => (57, [(48, .iload_n 1, 1, 1, 0, 0, .inl 0), (49, .i2l, 1, 0, 0, 0, .inl 0), (50, .iload_n 2, 1, 2, 0, 0, .inl 0), (51, .i2l, 1, 0, 0, 0, .inl 0), (52, .ladd, 1, 0, 0, 0, .inl 0), (53, .invokestatic 168, 3, 2015, 1, 0, .inl 0), (56, .ireturn, 1, 0, 0, 0, .inl 0)])
  | 57 => (66, [(57, .iload_n 1, 1, 1, 0, 0, .inl 0), (58, .i2l, 1, 0, 0, 0, .inl 0), (59, .iload_n 2, 1, 2, 0, 0, .inl 0), (60, .i2l, 1, 0, 0, 0, .inl 0), (61, .lsub, 1, 0, 0, 0, .inl 0), (62, .invokestatic 168, 3, 2015, 1, 0, .inl 0), (65, .ireturn, 1, 0, 0, 0, .inl 0)])
  | 66 => (75, [(66, .iload_n 1, 1, 1, 0, 0, .inl 0), (67, .i2l, 1, 0, 0, 0, .inl 0), (68, .iload_n 2, 1, 2, 0, 0, .inl 0), (69, .i2l, 1, 0, 0, 0, .inl 0), (70, .lmul, 1, 0, 0, 0, .inl 0), (71, .invokestatic 168, 3, 2015, 1, 0, .inl 0), (74, .ireturn, 1, 0, 0, 0, .inl 0)])
  | 75 => (84, [(75, .iload_n 1, 1, 1, 0, 0, .inl 0), (76, .iload_n 2, 1, 2, 0, 0, .inl 0), (77, .if_icmp .ne 7, 3, 84, 0, 0, .inl 0), (80, .iconst 1, 1, 0, 0, 0, .inl (nI 1)), (81, .goto 4, 3, 85, 0, 0, .inl 0)])
  | 84 => (85, [(84, .iconst 0, 1, 0, 0, 0, .inl (nI 0))])
  | 85 => (86, [(85, .ireturn, 1, 0, 0, 0, .inl 0)])
  | 86 => (95, [(86, .iload_n 1, 1, 1, 0, 0, .inl 0), (87, .iload_n 2, 1, 2, 0, 0, .inl 0), (88, .if_icmp .ge 7, 3, 95, 0, 0, .inl 0), (91, .iconst 1, 1, 0, 0, 0, .inl (nI 1)), (92, .goto 4, 3, 96, 0, 0, .inl 0)])
  | 95 => (96, [(95, .iconst 0, 1, 0, 0, 0, .inl (nI 0))])
  | 96 => (97, [(96, .ireturn, 1, 0, 0, 0, .inl 0)])
  | 97 => (106, [(97, .iload_n 1, 1, 1, 0, 0, .inl 0), (98, .iload_n 2, 1, 2, 0, 0, .inl 0), (99, .if_icmp .le 7, 3, 106, 0, 0, .inl 0), (102, .iconst 1, 1, 0, 0, 0, .inl (nI 1)), (103, .goto 4, 3, 107, 0, 0, .inl 0)])
  | 106 => (107, [(106, .iconst 0, 1, 0, 0, 0, .inl (nI 0))])
  | 107 => (108, [(107, .ireturn, 1, 0, 0, 0, .inl 0)])
  | 108 => (112, [(108, .iload_n 1, 1, 1, 0, 0, .inl 0), (109, .iload_n 2, 1, 2, 0, 0, .inl 0), (110, .iand, 1, 0, 0, 0, .inl 0), (111, .ireturn, 1, 0, 0, 0, .inl 0)])
  | 112 => (116, [(112, .iload_n 1, 1, 1, 0, 0, .inl 0), (113, .iload_n 2, 1, 2, 0, 0, .inl 0), (114, .ior, 1, 0, 0, 0, .inl 0), (115, .ireturn, 1, 0, 0, 0, .inl 0)])
  | n => (n, [])
theorem ck_2014 : ∀ pc, px_cks pn_i2014 (bk_2014 pc).1 pc (bk_2014 pc).2 = true := by
  intro pc
  unfold bk_2014
  split <;> first | decide +kernel | simp [px_cks]
/-- NoThree$Council.kept(J)I -/
def bk_2015 : Nat → Nat × List px_E := fun pc => match pc with
  | 0 => (15, [(0, .ldc2_w 172, 3, 0, 0, 0, .inr (.inl (-1000000))), (3, .ldc2_w 174, 3, 0, 0, 0, .inr (.inl (lN 1000000))), (6, .lload_n 0, 1, 0, 0, 0, .inl 0), (7, .invokestatic 176, 3, 20002, 2, 3, .inl 0), (10, .invokestatic 179, 3, 20003, 2, 4, .inl 0), (13, .l2i, 1, 0, 0, 0, .inl 0), (14, .ireturn, 1, 0, 0, 0, .inl 0)])
  | n => (n, [])
theorem ck_2015 : ∀ pc, px_cks pn_i2015 (bk_2015 pc).1 pc (bk_2015 pc).2 = true := by
  intro pc
  unfold bk_2015
  split <;> first | decide +kernel | simp [px_cks]
/-- NoThree$Feasts.lay(LNoThree$Town;)V -/
def bk_3002 : Nat → Nat × List px_E := fun pc => match pc with
  | 0 => (17, [(0, .aload_n 0, 1, 0, 0, 0, .inl 0), (1, .aload_n 1, 1, 1, 0, 0, .inl 0), (2, .invokevirtual 19, 3, 11004, 1, 11, .inl 0), (5, .putfield 15, 3, 3, 1, 0, .inl 0), (8, .aload_n 0, 1, 0, 0, 0, .inl 0), (9, .getfield 9, 3, 3, 0, 2, .inl 0), (12, .iconst 0, 1, 0, 0, 0, .inl (nI 0)), (13, .iconst 0, 1, 0, 0, 0, .inl (nI 0)), (14, .iastore, 1, 0, 0, 0, .inl 0), (15, .iconst 0, 1, 0, 0, 0, .inl (nI 0)), (16, .istore_n 2, 1, 2, 0, 0, .inl 0)])
  | 17 => (29, [(17, .iload_n 2, 1, 2, 0, 0, .inl 0), (18, .aload_n 1, 1, 1, 0, 0, .inl 0), (19, .getfield 24, 3, 11, 0, 0, .inl 0), (22, .if_icmp .ge 51, 3, 73, 0, 0, .inl 0), (25, .iconst 1, 1, 0, 0, 0, .inl (nI 1)), (26, .iload_n 2, 1, 2, 0, 0, .inl 0), (27, .ishl, 1, 0, 0, 0, .inl 0), (28, .istore_n 3, 1, 3, 0, 0, .inl 0)])
  | 29 => (32, [(29, .iconst 0, 1, 0, 0, 0, .inl (nI 0)), (30, .istore 4, 2, 4, 0, 0, .inl 0)])
  | 32 => (67, [(32, .iload 4, 2, 4, 0, 0, .inl 0), (34, .iload_n 3, 1, 3, 0, 0, .inl 0), (35, .if_icmp .ge 32, 3, 67, 0, 0, .inl 0), (38, .aload_n 0, 1, 0, 0, 0, .inl 0), (39, .getfield 9, 3, 3, 0, 2, .inl 0), (42, .iload 4, 2, 4, 0, 0, .inl 0), (44, .iload_n 3, 1, 3, 0, 0, .inl 0), (45, .iadd, 1, 0, 0, 0, .inl 0), (46, .aload_n 0, 1, 0, 0, 0, .inl 0), (47, .getfield 9, 3, 3, 0, 2, .inl 0), (50, .iload 4, 2, 4, 0, 0, .inl 0), (52, .iaload, 1, 0, 0, 0, .inl 0), (53, .aload_n 1, 1, 1, 0, 0, .inl 0), (54, .getfield 27, 3, 11, 1, 2, .inl 0), (57, .iload_n 2, 1, 2, 0, 0, .inl 0), (58, .iaload, 1, 0, 0, 0, .inl 0), (59, .ior, 1, 0, 0, 0, .inl 0), (60, .iastore, 1, 0, 0, 0, .inl 0), (61, .iinc 4 1, 3, 4, 0, 0, .inl (nI 1)), (64, .goto (-32), 3, 32, 0, 0, .inl 0)])
  | 67 => (73, [(67, .iinc 2 1, 3, 2, 0, 0, .inl (nI 1)), (70, .goto (-53), 3, 17, 0, 0, .inl 0)])
  | 73 => (74, [(73, .return_, 1, 0, 0, 0, .inl 0)])
  | n => (n, [])
theorem ck_3002 : ∀ pc, px_cks pn_i3002 (bk_3002 pc).1 pc (bk_3002 pc).2 = true := by
  intro pc
  unfold bk_3002
  split <;> first | decide +kernel | simp [px_cks]
/-- NoThree$Feasts.aroundOf(I)I -/
def bk_3003 : Nat → Nat × List px_E := fun pc => match pc with
  | 0 => (20, [(0, .iload_n 1, 1, 1, 0, 0, .inl 0), (1, .ifCond .lt 19, 3, 20, 0, 0, .inl 0), (4, .iload_n 1, 1, 1, 0, 0, .inl 0), (5, .sipush 2048, 3, 0, 0, 0, .inl (nI 2048)), (8, .if_icmp .ge 12, 3, 20, 0, 0, .inl 0), (11, .aload_n 0, 1, 0, 0, 0, .inl 0), (12, .getfield 9, 3, 3, 0, 2, .inl 0), (15, .iload_n 1, 1, 1, 0, 0, .inl 0), (16, .iaload, 1, 0, 0, 0, .inl 0), (17, .goto 4, 3, 21, 0, 0, .inl 0)])
  | 20 => (21, [(20, .iconst 0, 1, 0, 0, 0, .inl (nI 0))])
  | 21 => (22, [(21, .ireturn, 1, 0, 0, 0, .inl 0)])
  | n => (n, [])
theorem ck_3003 : ∀ pc, px_cks pn_i3003 (bk_3003 pc).1 pc (bk_3003 pc).2 = true := by
  intro pc
  unfold bk_3003
  split <;> first | decide +kernel | simp [px_cks]
/-- NoThree$Feasts.isFeast(I)Z -/
def bk_3004 : Nat → Nat × List px_E := fun pc => match pc with
  | 0 => (14, [(0, .aload_n 0, 1, 0, 0, 0, .inl 0), (1, .iload_n 1, 1, 1, 0, 0, .inl 0), (2, .invokevirtual 30, 3, 3003, 2, 3, .inl 0), (5, .iload_n 1, 1, 1, 0, 0, .inl 0), (6, .iand, 1, 0, 0, 0, .inl 0), (7, .ifCond .ne 7, 3, 14, 0, 0, .inl 0), (10, .iconst 1, 1, 0, 0, 0, .inl (nI 1)), (11, .goto 4, 3, 15, 0, 0, .inl 0)])
  | 14 => (15, [(14, .iconst 0, 1, 0, 0, 0, .inl (nI 0))])
  | 15 => (16, [(15, .ireturn, 1, 0, 0, 0, .inl 0)])
  | n => (n, [])
theorem ck_3004 : ∀ pc, px_cks pn_i3004 (bk_3004 pc).1 pc (bk_3004 pc).2 = true := by
  intro pc
  unfold bk_3004
  split <;> first | decide +kernel | simp [px_cks]
/-- NoThree$Feasts.howMany()I -/
def bk_3005 : Nat → Nat × List px_E := fun pc => match pc with
  | 0 => (4, [(0, .iconst 0, 1, 0, 0, 0, .inl (nI 0)), (1, .istore_n 1, 1, 1, 0, 0, .inl 0), (2, .iconst 0, 1, 0, 0, 0, .inl (nI 0)), (3, .istore_n 2, 1, 2, 0, 0, .inl 0)])
  | 4 => (23, [(4, .iload_n 2, 1, 2, 0, 0, .inl 0), (5, .aload_n 0, 1, 0, 0, 0, .inl 0), (6, .getfield 15, 3, 3, 1, 0, .inl 0), (9, .if_icmp .gt 20, 3, 29, 0, 0, .inl 0), (12, .aload_n 0, 1, 0, 0, 0, .inl 0), (13, .iload_n 2, 1, 2, 0, 0, .inl 0), (14, .invokevirtual 34, 3, 3004, 2, 3, .inl 0), (17, .ifCond .eq 6, 3, 23, 0, 0, .inl 0), (20, .iinc 1 1, 3, 1, 0, 0, .inl (nI 1))])
  | 23 => (29, [(23, .iinc 2 1, 3, 2, 0, 0, .inl (nI 1)), (26, .goto (-22), 3, 4, 0, 0, .inl 0)])
  | 29 => (31, [(29, .iload_n 1, 1, 1, 0, 0, .inl 0), (30, .ireturn, 1, 0, 0, 0, .inl 0)])
  | n => (n, [])
theorem ck_3005 : ∀ pc, px_cks pn_i3005 (bk_3005 pc).1 pc (bk_3005 pc).2 = true := by
  intro pc
  unfold bk_3005
  split <;> first | decide +kernel | simp [px_cks]
/-- NoThree$Feasts.howManyFull()I -/
def bk_3006 : Nat → Nat × List px_E := fun pc => match pc with
  | 0 => (4, [(0, .iconst 0, 1, 0, 0, 0, .inl (nI 0)), (1, .istore_n 1, 1, 1, 0, 0, .inl 0), (2, .iconst 0, 1, 0, 0, 0, .inl (nI 0)), (3, .istore_n 2, 1, 2, 0, 0, .inl 0)])
  | 4 => (37, [(4, .iload_n 2, 1, 2, 0, 0, .inl 0), (5, .aload_n 0, 1, 0, 0, 0, .inl 0), (6, .getfield 15, 3, 3, 1, 0, .inl 0), (9, .if_icmp .gt 34, 3, 43, 0, 0, .inl 0), (12, .aload_n 0, 1, 0, 0, 0, .inl 0), (13, .iload_n 2, 1, 2, 0, 0, .inl 0), (14, .invokevirtual 30, 3, 3003, 2, 3, .inl 0), (17, .iload_n 2, 1, 2, 0, 0, .inl 0), (18, .ixor, 1, 0, 0, 0, .inl 0), (19, .aload_n 0, 1, 0, 0, 0, .inl 0), (20, .getfield 15, 3, 3, 1, 0, .inl 0), (23, .if_icmp .ne 14, 3, 37, 0, 0, .inl 0), (26, .aload_n 0, 1, 0, 0, 0, .inl 0), (27, .iload_n 2, 1, 2, 0, 0, .inl 0), (28, .invokevirtual 34, 3, 3004, 2, 3, .inl 0), (31, .ifCond .eq 6, 3, 37, 0, 0, .inl 0), (34, .iinc 1 1, 3, 1, 0, 0, .inl (nI 1))])
  | 37 => (43, [(37, .iinc 2 1, 3, 2, 0, 0, .inl (nI 1)), (40, .goto (-36), 3, 4, 0, 0, .inl 0)])
  | 43 => (45, [(43, .iload_n 1, 1, 1, 0, 0, .inl 0), (44, .ireturn, 1, 0, 0, 0, .inl 0)])
  | n => (n, [])
theorem ck_3006 : ∀ pc, px_cks pn_i3006 (bk_3006 pc).1 pc (bk_3006 pc).2 = true := by
  intro pc
  unfold bk_3006
  split <;> first | decide +kernel | simp [px_cks]
/-- NoThree$Feasts.largest(I)I -/
def bk_3007 : Nat → Nat × List px_E := fun pc => match pc with
  | 0 => (7, [(0, .iconst 0, 1, 0, 0, 0, .inl (nI 0)), (1, .istore_n 2, 1, 2, 0, 0, .inl 0), (2, .iconst (-1), 1, 0, 0, 0, .inl (-1)), (3, .istore_n 3, 1, 3, 0, 0, .inl 0), (4, .iconst 0, 1, 0, 0, 0, .inl (nI 0)), (5, .istore 4, 2, 4, 0, 0, .inl 0)])
  | 7 => (42, [(7, .iload 4, 2, 4, 0, 0, .inl 0), (9, .aload_n 0, 1, 0, 0, 0, .inl 0), (10, .getfield 15, 3, 3, 1, 0, .inl 0), (13, .if_icmp .gt 44, 3, 57, 0, 0, .inl 0), (16, .iload 4, 2, 4, 0, 0, .inl 0), (18, .iload_n 1, 1, 1, 0, 0, .inl 0), (19, .iand, 1, 0, 0, 0, .inl 0), (20, .iload_n 1, 1, 1, 0, 0, .inl 0), (21, .if_icmp .ne 30, 3, 51, 0, 0, .inl 0), (24, .iload 4, 2, 4, 0, 0, .inl 0), (26, .invokestatic 38, 3, 21000, 1, 0, .inl 0), (29, .iload_n 3, 1, 3, 0, 0, .inl 0), (30, .if_icmp .le 21, 3, 51, 0, 0, .inl 0), (33, .aload_n 0, 1, 0, 0, 0, .inl 0), (34, .iload 4, 2, 4, 0, 0, .inl 0), (36, .invokevirtual 34, 3, 3004, 2, 3, .inl 0), (39, .ifCond .eq 12, 3, 51, 0, 0, .inl 0)])
  | 42 => (51, [(42, .iload 4, 2, 4, 0, 0, .inl 0), (44, .istore_n 2, 1, 2, 0, 0, .inl 0), (45, .iload 4, 2, 4, 0, 0, .inl 0), (47, .invokestatic 38, 3, 21000, 1, 0, .inl 0), (50, .istore_n 3, 1, 3, 0, 0, .inl 0)])
  | 51 => (57, [(51, .iinc 4 1, 3, 4, 0, 0, .inl (nI 1)), (54, .goto (-47), 3, 7, 0, 0, .inl 0)])
  | 57 => (59, [(57, .iload_n 2, 1, 2, 0, 0, .inl 0), (58, .ireturn, 1, 0, 0, 0, .inl 0)])
  | n => (n, [])
theorem ck_3007 : ∀ pc, px_cks pn_i3007 (bk_3007 pc).1 pc (bk_3007 pc).2 = true := by
  intro pc
  unfold bk_3007
  split <;> first | decide +kernel | simp [px_cks]
/-- NoThree$Feasts.mostGuests(LNoThree$Town;)I -/
def bk_3008 : Nat → Nat × List px_E := fun pc => match pc with
  | 0 => (10, [(0, .aload_n 0, 1, 0, 0, 0, .inl 0), (1, .aload_n 0, 1, 0, 0, 0, .inl 0), (2, .invokevirtual 19, 3, 11004, 1, 11, .inl 0), (5, .iconst 0, 1, 0, 0, 0, .inl (nI 0)), (6, .invokestatic 43, 3, 3009, 3, 0, .inl 0), (9, .ireturn, 1, 0, 0, 0, .inl 0)])
  | n => (n, [])
theorem ck_3008 : ∀ pc, px_cks pn_i3008 (bk_3008 pc).1 pc (bk_3008 pc).2 = true := by
  intro pc
  unfold bk_3008
  split <;> first | decide +kernel | simp [px_cks]
/-- NoThree$Feasts.mostOf(LNoThree$Town;II)I -/
def bk_3009 : Nat → Nat × List px_E := fun pc => match pc with
  | 0 => (10, [(0, .iload_n 1, 1, 1, 0, 0, .inl 0), (1, .ifCond .eq 9, 3, 10, 0, 0, .inl 0), (4, .iload_n 2, 1, 2, 0, 0, .inl 0), (5, .bipush 11, 2, 0, 0, 0, .inl (nI 11)), (7, .if_icmp .le 5, 3, 12, 0, 0, .inl 0)])
  | 10 => (12, [(10, .iconst 0, 1, 0, 0, 0, .inl (nI 0)), (11, .ireturn, 1, 0, 0, 0, .inl 0)])
  | 12 => (23, [(12, .iconst 0, 1, 0, 0, 0, .inl (nI 0)), (13, .istore_n 3, 1, 3, 0, 0, .inl 0), (14, .iconst (-1), 1, 0, 0, 0, .inl (-1)), (15, .istore 4, 2, 4, 0, 0, .inl 0), (17, .iconst 0, 1, 0, 0, 0, .inl (nI 0)), (18, .istore 5, 2, 5, 0, 0, .inl 0), (20, .iconst 0, 1, 0, 0, 0, .inl (nI 0)), (21, .istore 6, 2, 6, 0, 0, .inl 0)])
  | 23 => (62, [(23, .iload 6, 2, 6, 0, 0, .inl 0), (25, .aload_n 0, 1, 0, 0, 0, .inl 0), (26, .getfield 24, 3, 11, 0, 0, .inl 0), (29, .if_icmp .ge 53, 3, 82, 0, 0, .inl 0), (32, .iload_n 1, 1, 1, 0, 0, .inl 0), (33, .iconst 1, 1, 0, 0, 0, .inl (nI 1)), (34, .iload 6, 2, 6, 0, 0, .inl 0), (36, .ishl, 1, 0, 0, 0, .inl 0), (37, .iand, 1, 0, 0, 0, .inl 0), (38, .ifCond .eq 38, 3, 76, 0, 0, .inl 0), (41, .aload_n 0, 1, 0, 0, 0, .inl 0), (42, .getfield 27, 3, 11, 1, 2, .inl 0), (45, .iload 6, 2, 6, 0, 0, .inl 0), (47, .iaload, 1, 0, 0, 0, .inl 0), (48, .iload_n 1, 1, 1, 0, 0, .inl 0), (49, .iand, 1, 0, 0, 0, .inl 0), (50, .invokestatic 38, 3, 21000, 1, 0, .inl 0), (53, .istore 7, 2, 7, 0, 0, .inl 0), (55, .iload 5, 2, 5, 0, 0, .inl 0), (57, .iload 7, 2, 7, 0, 0, .inl 0), (59, .iadd, 1, 0, 0, 0, .inl 0), (60, .istore 5, 2, 5, 0, 0, .inl 0)])
  | 62 => (76, [(62, .iload 7, 2, 7, 0, 0, .inl 0), (64, .iload 4, 2, 4, 0, 0, .inl 0), (66, .if_icmp .le 10, 3, 76, 0, 0, .inl 0), (69, .iload 7, 2, 7, 0, 0, .inl 0), (71, .istore 4, 2, 4, 0, 0, .inl 0), (73, .iload 6, 2, 6, 0, 0, .inl 0), (75, .istore_n 3, 1, 3, 0, 0, .inl 0)])
  | 76 => (82, [(76, .iinc 6 1, 3, 6, 0, 0, .inl (nI 1)), (79, .goto (-56), 3, 23, 0, 0, .inl 0)])
  | 82 => (98, [(82, .iload 4, 2, 4, 0, 0, .inl 0), (84, .iconst 1, 1, 0, 0, 0, .inl (nI 1)), (85, .if_icmp .gt 13, 3, 98, 0, 0, .inl 0), (88, .iload_n 1, 1, 1, 0, 0, .inl 0), (89, .invokestatic 38, 3, 21000, 1, 0, .inl 0), (92, .iload 5, 2, 5, 0, 0, .inl 0), (94, .iconst 2, 1, 0, 0, 0, .inl (nI 2)), (95, .idiv, 1, 0, 0, 0, .inl 0), (96, .isub, 1, 0, 0, 0, .inl 0), (97, .ireturn, 1, 0, 0, 0, .inl 0)])
  | 98 => (107, [(98, .iload_n 1, 1, 1, 0, 0, .inl 0), (99, .iconst 1, 1, 0, 0, 0, .inl (nI 1)), (100, .iload_n 3, 1, 3, 0, 0, .inl 0), (101, .ishl, 1, 0, 0, 0, .inl 0), (102, .iconst (-1), 1, 0, 0, 0, .inl (-1)), (103, .ixor, 1, 0, 0, 0, .inl 0), (104, .iand, 1, 0, 0, 0, .inl 0), (105, .istore 6, 2, 6, 0, 0, .inl 0)])
  | 107 => (140, [(107, .aload_n 0, 1, 0, 0, 0, .inl 0), (108, .iload 6, 2, 6, 0, 0, .inl 0), (110, .iload_n 2, 1, 2, 0, 0, .inl 0), (111, .iconst 1, 1, 0, 0, 0, .inl (nI 1)), (112, .iadd, 1, 0, 0, 0, .inl 0), (113, .invokestatic 43, 3, 3009, 3, 0, .inl 0), (116, .istore 7, 2, 7, 0, 0, .inl 0), (118, .iconst 1, 1, 0, 0, 0, .inl (nI 1)), (119, .aload_n 0, 1, 0, 0, 0, .inl 0), (120, .iload 6, 2, 6, 0, 0, .inl 0), (122, .aload_n 0, 1, 0, 0, 0, .inl 0), (123, .getfield 27, 3, 11, 1, 2, .inl 0), (126, .iload_n 3, 1, 3, 0, 0, .inl 0), (127, .iaload, 1, 0, 0, 0, .inl 0), (128, .iconst (-1), 1, 0, 0, 0, .inl (-1)), (129, .ixor, 1, 0, 0, 0, .inl 0), (130, .iand, 1, 0, 0, 0, .inl 0), (131, .iload_n 2, 1, 2, 0, 0, .inl 0), (132, .iconst 1, 1, 0, 0, 0, .inl (nI 1)), (133, .iadd, 1, 0, 0, 0, .inl 0), (134, .invokestatic 43, 3, 3009, 3, 0, .inl 0), (137, .iadd, 1, 0, 0, 0, .inl 0), (138, .istore 8, 2, 8, 0, 0, .inl 0)])
  | 140 => (148, [(140, .iload 8, 2, 8, 0, 0, .inl 0), (142, .iload 7, 2, 7, 0, 0, .inl 0), (144, .invokestatic 47, 3, 20000, 2, 1, .inl 0), (147, .ireturn, 1, 0, 0, 0, .inl 0)])
  | n => (n, [])
theorem ck_3009 : ∀ pc, px_cks pn_i3009 (bk_3009 pc).1 pc (bk_3009 pc).2 = true := by
  intro pc
  unfold bk_3009
  split <;> first | decide +kernel | simp [px_cks]
/-- NoThree$Gossip.listen(LNoThree$Town;)V -/
def bk_4002 : Nat → Nat × List px_E := fun pc => match pc with
  | 0 => (26, [(0, .aload_n 0, 1, 0, 0, 0, .inl 0), (1, .aload_n 1, 1, 1, 0, 0, .inl 0), (2, .putfield 28, 3, 4, 3, 2, .inl 0), (5, .aload_n 0, 1, 0, 0, 0, .inl 0), (6, .getfield 12, 3, 4, 0, 2, .inl 0), (9, .aload_n 0, 1, 0, 0, 0, .inl 0), (10, .getfield 28, 3, 4, 3, 2, .inl 0), (13, .invokevirtual 36, 3, 3002, 2, 3, .inl 0), (16, .aload_n 0, 1, 0, 0, 0, .inl 0), (17, .getfield 18, 3, 4, 1, 2, .inl 0), (20, .iconst 0, 1, 0, 0, 0, .inl (nI 0)), (21, .invokestatic 40, 3, 22000, 2, 0, .inl 0), (24, .iconst 0, 1, 0, 0, 0, .inl (nI 0)), (25, .istore_n 2, 1, 2, 0, 0, .inl 0)])
  | 26 => (46, [(26, .iload_n 2, 1, 2, 0, 0, .inl 0), (27, .aload_n 0, 1, 0, 0, 0, .inl 0), (28, .getfield 28, 3, 4, 3, 2, .inl 0), (31, .getfield 46, 3, 11, 0, 0, .inl 0), (34, .if_icmp .ge 81, 3, 115, 0, 0, .inl 0), (37, .aload_n 0, 1, 0, 0, 0, .inl 0), (38, .getfield 22, 3, 4, 2, 2, .inl 0), (41, .iload_n 2, 1, 2, 0, 0, .inl 0), (42, .iconst 0, 1, 0, 0, 0, .inl (nI 0)), (43, .iastore, 1, 0, 0, 0, .inl 0), (44, .iconst 0, 1, 0, 0, 0, .inl (nI 0)), (45, .istore_n 3, 1, 3, 0, 0, .inl 0)])
  | 46 => (60, [(46, .iload_n 3, 1, 3, 0, 0, .inl 0), (47, .iload_n 2, 1, 2, 0, 0, .inl 0), (48, .if_icmp .ge 61, 3, 109, 0, 0, .inl 0), (51, .iconst 1, 1, 0, 0, 0, .inl (nI 1)), (52, .iload_n 2, 1, 2, 0, 0, .inl 0), (53, .ishl, 1, 0, 0, 0, .inl 0), (54, .iconst 1, 1, 0, 0, 0, .inl (nI 1)), (55, .iload_n 3, 1, 3, 0, 0, .inl 0), (56, .ishl, 1, 0, 0, 0, .inl 0), (57, .ior, 1, 0, 0, 0, .inl 0), (58, .istore 4, 2, 4, 0, 0, .inl 0)])
  | 60 => (103, [(60, .aload_n 0, 1, 0, 0, 0, .inl 0), (61, .getfield 28, 3, 4, 3, 2, .inl 0), (64, .getfield 49, 3, 11, 1, 2, .inl 0), (67, .iload_n 2, 1, 2, 0, 0, .inl 0), (68, .iaload, 1, 0, 0, 0, .inl 0), (69, .iload 4, 2, 4, 0, 0, .inl 0), (71, .iconst (-1), 1, 0, 0, 0, .inl (-1)), (72, .ixor, 1, 0, 0, 0, .inl 0), (73, .iand, 1, 0, 0, 0, .inl 0), (74, .aload_n 0, 1, 0, 0, 0, .inl 0), (75, .getfield 28, 3, 4, 3, 2, .inl 0), (78, .getfield 49, 3, 11, 1, 2, .inl 0), (81, .iload_n 3, 1, 3, 0, 0, .inl 0), (82, .iaload, 1, 0, 0, 0, .inl 0), (83, .iload 4, 2, 4, 0, 0, .inl 0), (85, .iconst (-1), 1, 0, 0, 0, .inl (-1)), (86, .ixor, 1, 0, 0, 0, .inl 0), (87, .iand, 1, 0, 0, 0, .inl 0), (88, .if_icmp .ne 15, 3, 103, 0, 0, .inl 0), (91, .aload_n 0, 1, 0, 0, 0, .inl 0), (92, .getfield 22, 3, 4, 2, 2, .inl 0), (95, .iload_n 2, 1, 2, 0, 0, .inl 0), (96, .dup2, 1, 0, 0, 0, .inl 0), (97, .iaload, 1, 0, 0, 0, .inl 0), (98, .iconst 1, 1, 0, 0, 0, .inl (nI 1)), (99, .iload_n 3, 1, 3, 0, 0, .inl 0), (100, .ishl, 1, 0, 0, 0, .inl 0), (101, .ior, 1, 0, 0, 0, .inl 0), (102, .iastore, 1, 0, 0, 0, .inl 0)])
  | 103 => (109, [(103, .iinc 3 1, 3, 3, 0, 0, .inl (nI 1)), (106, .goto (-60), 3, 46, 0, 0, .inl 0)])
  | 109 => (115, [(109, .iinc 2 1, 3, 2, 0, 0, .inl (nI 1)), (112, .goto (-86), 3, 26, 0, 0, .inl 0)])
  | 115 => (116, [(115, .return_, 1, 0, 0, 0, .inl 0)])
  | n => (n, [])
theorem ck_4002 : ∀ pc, px_cks pn_i4002 (bk_4002 pc).1 pc (bk_4002 pc).2 = true := by
  intro pc
  unfold bk_4002
  split <;> first | decide +kernel | simp [px_cks]
/-- NoThree$Gossip.bestTeller()I -/
def bk_4003 : Nat → Nat × List px_E := fun pc => match pc with
  | 0 => (4, [(0, .iconst 0, 1, 0, 0, 0, .inl (nI 0)), (1, .istore_n 1, 1, 1, 0, 0, .inl 0), (2, .iconst 0, 1, 0, 0, 0, .inl (nI 0)), (3, .istore_n 2, 1, 2, 0, 0, .inl 0)])
  | 4 => (33, [(4, .iload_n 2, 1, 2, 0, 0, .inl 0), (5, .aload_n 0, 1, 0, 0, 0, .inl 0), (6, .getfield 28, 3, 4, 3, 2, .inl 0), (9, .getfield 46, 3, 11, 0, 0, .inl 0), (12, .if_icmp .ge 27, 3, 39, 0, 0, .inl 0), (15, .iload_n 1, 1, 1, 0, 0, .inl 0), (16, .aload_n 0, 1, 0, 0, 0, .inl 0), (17, .getfield 28, 3, 4, 3, 2, .inl 0), (20, .iload_n 2, 1, 2, 0, 0, .inl 0), (21, .bipush 11, 2, 0, 0, 0, .inl (nI 11)), (23, .invokevirtual 52, 3, 11017, 3, 11, .inl 0), (26, .invokestatic 56, 3, 21000, 1, 0, .inl 0), (29, .invokestatic 62, 3, 20000, 2, 1, .inl 0), (32, .istore_n 1, 1, 1, 0, 0, .inl 0)])
  | 33 => (39, [(33, .iinc 2 1, 3, 2, 0, 0, .inl (nI 1)), (36, .goto (-32), 3, 4, 0, 0, .inl 0)])
  | 39 => (47, [(39, .iconst (-1), 1, 0, 0, 0, .inl (-1)), (40, .istore_n 2, 1, 2, 0, 0, .inl 0), (41, .bipush 11, 2, 0, 0, 0, .inl (nI 11)), (43, .istore_n 3, 1, 3, 0, 0, .inl 0), (44, .iconst 0, 1, 0, 0, 0, .inl (nI 0)), (45, .istore 4, 2, 4, 0, 0, .inl 0)])
  | 47 => (77, [(47, .iload 4, 2, 4, 0, 0, .inl 0), (49, .aload_n 0, 1, 0, 0, 0, .inl 0), (50, .getfield 28, 3, 4, 3, 2, .inl 0), (53, .getfield 46, 3, 11, 0, 0, .inl 0), (56, .if_icmp .ge 47, 3, 103, 0, 0, .inl 0), (59, .aload_n 0, 1, 0, 0, 0, .inl 0), (60, .getfield 28, 3, 4, 3, 2, .inl 0), (63, .iload 4, 2, 4, 0, 0, .inl 0), (65, .bipush 11, 2, 0, 0, 0, .inl (nI 11)), (67, .invokevirtual 52, 3, 11017, 3, 11, .inl 0), (70, .invokestatic 56, 3, 21000, 1, 0, .inl 0), (73, .iload_n 1, 1, 1, 0, 0, .inl 0), (74, .if_icmp .ne 23, 3, 97, 0, 0, .inl 0)])
  | 77 => (97, [(77, .aload_n 0, 1, 0, 0, 0, .inl 0), (78, .iload 4, 2, 4, 0, 0, .inl 0), (80, .invokevirtual 67, 3, 4004, 2, 4, .inl 0), (83, .istore 5, 2, 5, 0, 0, .inl 0), (85, .iload 5, 2, 5, 0, 0, .inl 0), (87, .iload_n 3, 1, 3, 0, 0, .inl 0), (88, .if_icmp .ge 9, 3, 97, 0, 0, .inl 0), (91, .iload 5, 2, 5, 0, 0, .inl 0), (93, .istore_n 3, 1, 3, 0, 0, .inl 0), (94, .iload 4, 2, 4, 0, 0, .inl 0), (96, .istore_n 2, 1, 2, 0, 0, .inl 0)])
  | 97 => (103, [(97, .iinc 4 1, 3, 4, 0, 0, .inl (nI 1)), (100, .goto (-53), 3, 47, 0, 0, .inl 0)])
  | 103 => (105, [(103, .iload_n 2, 1, 2, 0, 0, .inl 0), (104, .ireturn, 1, 0, 0, 0, .inl 0)])
  | n => (n, [])
theorem ck_4003 : ∀ pc, px_cks pn_i4003 (bk_4003 pc).1 pc (bk_4003 pc).2 = true := by
  intro pc
  unfold bk_4003
  split <;> first | decide +kernel | simp [px_cks]
/-- NoThree$Gossip.roundsFrom(I)I -/
def bk_4004 : Nat → Nat × List px_E := fun pc => match pc with
  | 0 => (16, [(0, .aload_n 0, 1, 0, 0, 0, .inl 0), (1, .aload_n 0, 1, 0, 0, 0, .inl 0), (2, .getfield 28, 3, 4, 3, 2, .inl 0), (5, .iload_n 1, 1, 1, 0, 0, .inl 0), (6, .bipush 11, 2, 0, 0, 0, .inl (nI 11)), (8, .invokevirtual 52, 3, 11017, 3, 11, .inl 0), (11, .putfield 32, 3, 4, 4, 0, .inl 0), (14, .iconst 0, 1, 0, 0, 0, .inl (nI 0)), (15, .istore_n 2, 1, 2, 0, 0, .inl 0)])
  | 16 => (35, [(16, .iload_n 2, 1, 2, 0, 0, .inl 0), (17, .bipush 11, 2, 0, 0, 0, .inl (nI 11)), (19, .if_icmp .ge 22, 3, 41, 0, 0, .inl 0), (22, .aload_n 0, 1, 0, 0, 0, .inl 0), (23, .iconst 1, 1, 0, 0, 0, .inl (nI 1)), (24, .iload_n 1, 1, 1, 0, 0, .inl 0), (25, .ishl, 1, 0, 0, 0, .inl 0), (26, .iload_n 2, 1, 2, 0, 0, .inl 0), (27, .invokevirtual 70, 3, 4005, 3, 4, .inl 0), (30, .ifCond .eq 5, 3, 35, 0, 0, .inl 0), (33, .iload_n 2, 1, 2, 0, 0, .inl 0), (34, .ireturn, 1, 0, 0, 0, .inl 0)])
  | 35 => (41, [(35, .iinc 2 1, 3, 2, 0, 0, .inl (nI 1)), (38, .goto (-22), 3, 16, 0, 0, .inl 0)])
  | 41 => (44, [(41, .bipush 11, 2, 0, 0, 0, .inl (nI 11)), (43, .ireturn, 1, 0, 0, 0, .inl 0)])
  | n => (n, [])
theorem ck_4004 : ∀ pc, px_cks pn_i4004 (bk_4004 pc).1 pc (bk_4004 pc).2 = true := by
  intro pc
  unfold bk_4004
  split <;> first | decide +kernel | simp [px_cks]
/-- NoThree$Gossip.canAllKnow(II)Z -/
def bk_4005 : Nat → Nat × List px_E := fun pc => match pc with
  | 0 => (10, [(0, .iload_n 1, 1, 1, 0, 0, .inl 0), (1, .aload_n 0, 1, 0, 0, 0, .inl 0), (2, .getfield 32, 3, 4, 4, 0, .inl 0), (5, .if_icmp .ne 5, 3, 10, 0, 0, .inl 0), (8, .iconst 1, 1, 0, 0, 0, .inl (nI 1)), (9, .ireturn, 1, 0, 0, 0, .inl 0)])
  | 10 => (40, [(10, .iload_n 1, 1, 1, 0, 0, .inl 0), (11, .ifCond .lt 29, 3, 40, 0, 0, .inl 0), (14, .iload_n 1, 1, 1, 0, 0, .inl 0), (15, .sipush 2048, 3, 0, 0, 0, .inl (nI 2048)), (18, .if_icmp .ge 22, 3, 40, 0, 0, .inl 0), (21, .aload_n 0, 1, 0, 0, 0, .inl 0), (22, .getfield 18, 3, 4, 1, 2, .inl 0), (25, .iload_n 1, 1, 1, 0, 0, .inl 0), (26, .iaload, 1, 0, 0, 0, .inl 0), (27, .iload_n 2, 1, 2, 0, 0, .inl 0), (28, .if_icmp .ge 12, 3, 40, 0, 0, .inl 0), (31, .aload_n 0, 1, 0, 0, 0, .inl 0), (32, .iload_n 1, 1, 1, 0, 0, .inl 0), (33, .iload_n 2, 1, 2, 0, 0, .inl 0), (34, .invokevirtual 74, 3, 4006, 3, 4, .inl 0), (37, .ifCond .ne 5, 3, 42, 0, 0, .inl 0)])
  | 40 => (42, [(40, .iconst 0, 1, 0, 0, 0, .inl (nI 0)), (41, .ireturn, 1, 0, 0, 0, .inl 0)])
  | 42 => (59, [(42, .aload_n 0, 1, 0, 0, 0, .inl 0), (43, .iload_n 1, 1, 1, 0, 0, .inl 0), (44, .iconst 0, 1, 0, 0, 0, .inl (nI 0)), (45, .aload_n 0, 1, 0, 0, 0, .inl 0), (46, .iload_n 1, 1, 1, 0, 0, .inl 0), (47, .invokevirtual 77, 3, 4009, 2, 4, .inl 0), (50, .iload_n 2, 1, 2, 0, 0, .inl 0), (51, .invokevirtual 80, 3, 4007, 5, 4, .inl 0), (54, .ifCond .eq 5, 3, 59, 0, 0, .inl 0), (57, .iconst 1, 1, 0, 0, 0, .inl (nI 1)), (58, .ireturn, 1, 0, 0, 0, .inl 0)])
  | 59 => (66, [(59, .aload_n 0, 1, 0, 0, 0, .inl 0), (60, .getfield 18, 3, 4, 1, 2, .inl 0), (63, .iload_n 1, 1, 1, 0, 0, .inl 0), (64, .iload_n 2, 1, 2, 0, 0, .inl 0), (65, .iastore, 1, 0, 0, 0, .inl 0)])
  | 66 => (68, [(66, .iconst 0, 1, 0, 0, 0, .inl (nI 0)), (67, .ireturn, 1, 0, 0, 0, .inl 0)])
  | n => (n, [])
theorem ck_4005 : ∀ pc, px_cks pn_i4005 (bk_4005 pc).1 pc (bk_4005 pc).2 = true := by
  intro pc
  unfold bk_4005
  split <;> first | decide +kernel | simp [px_cks]
/-- NoThree$Gossip.mightAllKnow(II)Z -/
def bk_4006 : Nat → Nat × List px_E := fun pc => match pc with
  | 0 => (5, [(0, .iload_n 1, 1, 1, 0, 0, .inl 0), (1, .istore_n 3, 1, 3, 0, 0, .inl 0), (2, .iconst 0, 1, 0, 0, 0, .inl (nI 0)), (3, .istore 4, 2, 4, 0, 0, .inl 0)])
  | 5 => (29, [(5, .iload 4, 2, 4, 0, 0, .inl 0), (7, .iload_n 2, 1, 2, 0, 0, .inl 0), (8, .if_icmp .ge 27, 3, 35, 0, 0, .inl 0), (11, .iload 4, 2, 4, 0, 0, .inl 0), (13, .bipush 11, 2, 0, 0, 0, .inl (nI 11)), (15, .if_icmp .ge 20, 3, 35, 0, 0, .inl 0), (18, .iload_n 3, 1, 3, 0, 0, .inl 0), (19, .aload_n 0, 1, 0, 0, 0, .inl 0), (20, .getfield 12, 3, 4, 0, 2, .inl 0), (23, .iload_n 3, 1, 3, 0, 0, .inl 0), (24, .invokevirtual 84, 3, 3003, 2, 3, .inl 0), (27, .ior, 1, 0, 0, 0, .inl 0), (28, .istore_n 3, 1, 3, 0, 0, .inl 0)])
  | 29 => (35, [(29, .iinc 4 1, 3, 4, 0, 0, .inl (nI 1)), (32, .goto (-27), 3, 5, 0, 0, .inl 0)])
  | 35 => (59, [(35, .iload_n 3, 1, 3, 0, 0, .inl 0), (36, .aload_n 0, 1, 0, 0, 0, .inl 0), (37, .getfield 32, 3, 4, 4, 0, .inl 0), (40, .if_icmp .ne 23, 3, 63, 0, 0, .inl 0), (43, .iload_n 1, 1, 1, 0, 0, .inl 0), (44, .invokestatic 56, 3, 21000, 1, 0, .inl 0), (47, .iload_n 2, 1, 2, 0, 0, .inl 0), (48, .ishl, 1, 0, 0, 0, .inl 0), (49, .aload_n 0, 1, 0, 0, 0, .inl 0), (50, .getfield 32, 3, 4, 4, 0, .inl 0), (53, .invokestatic 56, 3, 21000, 1, 0, .inl 0), (56, .if_icmp .lt 7, 3, 63, 0, 0, .inl 0)])
  | 59 => (63, [(59, .iconst 1, 1, 0, 0, 0, .inl (nI 1)), (60, .goto 4, 3, 64, 0, 0, .inl 0)])
  | 63 => (64, [(63, .iconst 0, 1, 0, 0, 0, .inl (nI 0))])
  | 64 => (65, [(64, .ireturn, 1, 0, 0, 0, .inl 0)])
  | n => (n, [])
theorem ck_4006 : ∀ pc, px_cks pn_i4006 (bk_4006 pc).1 pc (bk_4006 pc).2 = true := by
  intro pc
  unfold bk_4006
  split <;> first | decide +kernel | simp [px_cks]
/-- NoThree$Gossip.canTell(IIII)Z -/
def bk_4007 : Nat → Nat × List px_E := fun pc => match pc with
  | 0 => (31, [(0, .iload_n 3, 1, 3, 0, 0, .inl 0), (1, .ifCond .gt 32, 3, 33, 0, 0, .inl 0), (4, .iload_n 2, 1, 2, 0, 0, .inl 0), (5, .ifCond .eq 26, 3, 31, 0, 0, .inl 0), (8, .iload 4, 2, 4, 0, 0, .inl 0), (10, .ifCond .le 21, 3, 31, 0, 0, .inl 0), (13, .aload_n 0, 1, 0, 0, 0, .inl 0), (14, .iload_n 1, 1, 1, 0, 0, .inl 0), (15, .iload_n 2, 1, 2, 0, 0, .inl 0), (16, .ior, 1, 0, 0, 0, .inl 0), (17, .iload 4, 2, 4, 0, 0, .inl 0), (19, .iconst 1, 1, 0, 0, 0, .inl (nI 1)), (20, .isub, 1, 0, 0, 0, .inl 0), (21, .invokevirtual 70, 3, 4005, 3, 4, .inl 0), (24, .ifCond .eq 7, 3, 31, 0, 0, .inl 0), (27, .iconst 1, 1, 0, 0, 0, .inl (nI 1)), (28, .goto 4, 3, 32, 0, 0, .inl 0)])
  | 31 => (32, [(31, .iconst 0, 1, 0, 0, 0, .inl (nI 0))])
  | 32 => (33, [(32, .ireturn, 1, 0, 0, 0, .inl 0)])
  | 33 => (36, [(33, .iconst 0, 1, 0, 0, 0, .inl (nI 0)), (34, .istore 5, 2, 5, 0, 0, .inl 0)])
  | 36 => (80, [(36, .iload 5, 2, 5, 0, 0, .inl 0), (38, .aload_n 0, 1, 0, 0, 0, .inl 0), (39, .getfield 28, 3, 4, 3, 2, .inl 0), (42, .getfield 46, 3, 11, 0, 0, .inl 0), (45, .if_icmp .ge 62, 3, 107, 0, 0, .inl 0), (48, .iload_n 2, 1, 2, 0, 0, .inl 0), (49, .iload 5, 2, 5, 0, 0, .inl 0), (51, .iushr, 1, 0, 0, 0, .inl 0), (52, .ifCond .ne 49, 3, 101, 0, 0, .inl 0), (55, .aload_n 0, 1, 0, 0, 0, .inl 0), (56, .iload 5, 2, 5, 0, 0, .inl 0), (58, .iload_n 1, 1, 1, 0, 0, .inl 0), (59, .iload_n 2, 1, 2, 0, 0, .inl 0), (60, .invokevirtual 87, 3, 4008, 4, 4, .inl 0), (63, .ifCond .eq 38, 3, 101, 0, 0, .inl 0), (66, .aload_n 0, 1, 0, 0, 0, .inl 0), (67, .iload 5, 2, 5, 0, 0, .inl 0), (69, .iload_n 1, 1, 1, 0, 0, .inl 0), (70, .iload_n 2, 1, 2, 0, 0, .inl 0), (71, .invokevirtual 91, 3, 4010, 4, 4, .inl 0), (74, .ifCond .ne 6, 3, 80, 0, 0, .inl 0), (77, .goto 24, 3, 101, 0, 0, .inl 0)])
  | 80 => (101, [(80, .aload_n 0, 1, 0, 0, 0, .inl 0), (81, .iload_n 1, 1, 1, 0, 0, .inl 0), (82, .iload_n 2, 1, 2, 0, 0, .inl 0), (83, .iconst 1, 1, 0, 0, 0, .inl (nI 1)), (84, .iload 5, 2, 5, 0, 0, .inl 0), (86, .ishl, 1, 0, 0, 0, .inl 0), (87, .ior, 1, 0, 0, 0, .inl 0), (88, .iload_n 3, 1, 3, 0, 0, .inl 0), (89, .iconst 1, 1, 0, 0, 0, .inl (nI 1)), (90, .isub, 1, 0, 0, 0, .inl 0), (91, .iload 4, 2, 4, 0, 0, .inl 0), (93, .invokevirtual 80, 3, 4007, 5, 4, .inl 0), (96, .ifCond .eq 5, 3, 101, 0, 0, .inl 0), (99, .iconst 1, 1, 0, 0, 0, .inl (nI 1)), (100, .ireturn, 1, 0, 0, 0, .inl 0)])
  | 101 => (107, [(101, .iinc 5 1, 3, 5, 0, 0, .inl (nI 1)), (104, .goto (-68), 3, 36, 0, 0, .inl 0)])
  | 107 => (109, [(107, .iconst 0, 1, 0, 0, 0, .inl (nI 0)), (108, .ireturn, 1, 0, 0, 0, .inl 0)])
  | n => (n, [])
theorem ck_4007 : ∀ pc, px_cks pn_i4007 (bk_4007 pc).1 pc (bk_4007 pc).2 = true := by
  intro pc
  unfold bk_4007
  split <;> first | decide +kernel | simp [px_cks]
/-- NoThree$Gossip.isNext(III)Z -/
def bk_4008 : Nat → Nat × List px_E := fun pc => match pc with
  | 0 => (5, [(0, .iconst 1, 1, 0, 0, 0, .inl (nI 1)), (1, .iload_n 1, 1, 1, 0, 0, .inl 0), (2, .ishl, 1, 0, 0, 0, .inl 0), (3, .istore 4, 2, 4, 0, 0, .inl 0)])
  | 5 => (47, [(5, .iload_n 2, 1, 2, 0, 0, .inl 0), (6, .iload 4, 2, 4, 0, 0, .inl 0), (8, .iand, 1, 0, 0, 0, .inl 0), (9, .ifCond .ne 38, 3, 47, 0, 0, .inl 0), (12, .aload_n 0, 1, 0, 0, 0, .inl 0), (13, .getfield 12, 3, 4, 0, 2, .inl 0), (16, .iload_n 2, 1, 2, 0, 0, .inl 0), (17, .invokevirtual 84, 3, 3003, 2, 3, .inl 0), (20, .iload 4, 2, 4, 0, 0, .inl 0), (22, .iand, 1, 0, 0, 0, .inl 0), (23, .ifCond .eq 24, 3, 47, 0, 0, .inl 0), (26, .aload_n 0, 1, 0, 0, 0, .inl 0), (27, .getfield 22, 3, 4, 2, 2, .inl 0), (30, .iload_n 1, 1, 1, 0, 0, .inl 0), (31, .iaload, 1, 0, 0, 0, .inl 0), (32, .iload_n 2, 1, 2, 0, 0, .inl 0), (33, .iconst (-1), 1, 0, 0, 0, .inl (-1)), (34, .ixor, 1, 0, 0, 0, .inl 0), (35, .iand, 1, 0, 0, 0, .inl 0), (36, .iload_n 3, 1, 3, 0, 0, .inl 0), (37, .iconst (-1), 1, 0, 0, 0, .inl (-1)), (38, .ixor, 1, 0, 0, 0, .inl 0), (39, .iand, 1, 0, 0, 0, .inl 0), (40, .ifCond .ne 7, 3, 47, 0, 0, .inl 0), (43, .iconst 1, 1, 0, 0, 0, .inl (nI 1)), (44, .goto 4, 3, 48, 0, 0, .inl 0)])
  | 47 => (48, [(47, .iconst 0, 1, 0, 0, 0, .inl (nI 0))])
  | 48 => (49, [(48, .ireturn, 1, 0, 0, 0, .inl 0)])
  | n => (n, [])
theorem ck_4008 : ∀ pc, px_cks pn_i4008 (bk_4008 pc).1 pc (bk_4008 pc).2 = true := by
  intro pc
  unfold bk_4008
  split <;> first | decide +kernel | simp [px_cks]
/-- NoThree$Gossip.mostToldAtOnce(I)I -/
def bk_4009 : Nat → Nat × List px_E := fun pc => match pc with
  | 0 => (4, [(0, .iconst 0, 1, 0, 0, 0, .inl (nI 0)), (1, .istore_n 2, 1, 2, 0, 0, .inl 0), (2, .iconst 0, 1, 0, 0, 0, .inl (nI 0)), (3, .istore_n 3, 1, 3, 0, 0, .inl 0)])
  | 4 => (39, [(4, .iload_n 3, 1, 3, 0, 0, .inl 0), (5, .aload_n 0, 1, 0, 0, 0, .inl 0), (6, .getfield 28, 3, 4, 3, 2, .inl 0), (9, .getfield 46, 3, 11, 0, 0, .inl 0), (12, .if_icmp .ge 33, 3, 45, 0, 0, .inl 0), (15, .iload_n 1, 1, 1, 0, 0, .inl 0), (16, .iconst 1, 1, 0, 0, 0, .inl (nI 1)), (17, .iload_n 3, 1, 3, 0, 0, .inl 0), (18, .ishl, 1, 0, 0, 0, .inl 0), (19, .iand, 1, 0, 0, 0, .inl 0), (20, .ifCond .ne 19, 3, 39, 0, 0, .inl 0), (23, .aload_n 0, 1, 0, 0, 0, .inl 0), (24, .iload_n 3, 1, 3, 0, 0, .inl 0), (25, .iload_n 1, 1, 1, 0, 0, .inl 0), (26, .iload_n 2, 1, 2, 0, 0, .inl 0), (27, .invokevirtual 91, 3, 4010, 4, 4, .inl 0), (30, .ifCond .eq 9, 3, 39, 0, 0, .inl 0), (33, .iload_n 2, 1, 2, 0, 0, .inl 0), (34, .iconst 1, 1, 0, 0, 0, .inl (nI 1)), (35, .iload_n 3, 1, 3, 0, 0, .inl 0), (36, .ishl, 1, 0, 0, 0, .inl 0), (37, .ior, 1, 0, 0, 0, .inl 0), (38, .istore_n 2, 1, 2, 0, 0, .inl 0)])
  | 39 => (45, [(39, .iinc 3 1, 3, 3, 0, 0, .inl (nI 1)), (42, .goto (-38), 3, 4, 0, 0, .inl 0)])
  | 45 => (50, [(45, .iload_n 2, 1, 2, 0, 0, .inl 0), (46, .invokestatic 56, 3, 21000, 1, 0, .inl 0), (49, .ireturn, 1, 0, 0, 0, .inl 0)])
  | n => (n, [])
theorem ck_4009 : ∀ pc, px_cks pn_i4009 (bk_4009 pc).1 pc (bk_4009 pc).2 = true := by
  intro pc
  unfold bk_4009
  split <;> first | decide +kernel | simp [px_cks]
