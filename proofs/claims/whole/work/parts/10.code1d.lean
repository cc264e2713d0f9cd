/-- NoThree$Town.isPair(II)Z -/
def bk_11003 : Nat → Nat × List px_E := fun pc => match pc with
  | 0 => (25, [(0, .aload_n 0, 1, 0, 0, 0, .inl 0), (1, .iload_n 1, 1, 1, 0, 0, .inl 0), (2, .invokevirtual 19, 3, 11002, 2, 11, .inl 0), (5, .ifCond .eq 20, 3, 25, 0, 0, .inl 0), (8, .aload_n 0, 1, 0, 0, 0, .inl 0), (9, .iload_n 2, 1, 2, 0, 0, .inl 0), (10, .invokevirtual 19, 3, 11002, 2, 11, .inl 0), (13, .ifCond .eq 12, 3, 25, 0, 0, .inl 0), (16, .iload_n 1, 1, 1, 0, 0, .inl 0), (17, .iload_n 2, 1, 2, 0, 0, .inl 0), (18, .if_icmp .eq 7, 3, 25, 0, 0, .inl 0), (21, .iconst 1, 1, 0, 0, 0, .inl (nI 1)), (22, .goto 4, 3, 26, 0, 0, .inl 0)])
  | 25 => (26, [(25, .iconst 0, 1, 0, 0, 0, .inl (nI 0))])
  | 26 => (27, [(26, .ireturn, 1, 0, 0, 0, .inl 0)])
  | n => (n, [])
theorem ck_11003 : ∀ pc, px_cks pn_i11003 (bk_11003 pc).1 pc (bk_11003 pc).2 = true := by
  intro pc
  unfold bk_11003
  split <;> first | decide +kernel | simp [px_cks]
/-- NoThree$Town.all()I -/
def bk_11004 : Nat → Nat × List px_E := fun pc => match pc with
  | 0 => (9, [(0, .iconst 1, 1, 0, 0, 0, .inl (nI 1)), (1, .aload_n 0, 1, 0, 0, 0, .inl 0), (2, .getfield 9, 3, 11, 0, 0, .inl 0), (5, .ishl, 1, 0, 0, 0, .inl 0), (6, .iconst 1, 1, 0, 0, 0, .inl (nI 1)), (7, .isub, 1, 0, 0, 0, .inl 0), (8, .ireturn, 1, 0, 0, 0, .inl 0)])
  | n => (n, [])
theorem ck_11004 : ∀ pc, px_cks pn_i11004 (bk_11004 pc).1 pc (bk_11004 pc).2 = true := by
  intro pc
  unfold bk_11004
  split <;> first | decide +kernel | simp [px_cks]
/-- NoThree$Town.neighbours(I)I -/
def bk_11005 : Nat → Nat × List px_E := fun pc => match pc with
  | 0 => (21, [(0, .iload_n 1, 1, 1, 0, 0, .inl 0), (1, .ifCond .lt 20, 3, 21, 0, 0, .inl 0), (4, .iload_n 1, 1, 1, 0, 0, .inl 0), (5, .aload_n 0, 1, 0, 0, 0, .inl 0), (6, .getfield 9, 3, 11, 0, 0, .inl 0), (9, .if_icmp .ge 12, 3, 21, 0, 0, .inl 0), (12, .aload_n 0, 1, 0, 0, 0, .inl 0), (13, .getfield 15, 3, 11, 1, 2, .inl 0), (16, .iload_n 1, 1, 1, 0, 0, .inl 0), (17, .iaload, 1, 0, 0, 0, .inl 0), (18, .goto 4, 3, 22, 0, 0, .inl 0)])
  | 21 => (22, [(21, .iconst 0, 1, 0, 0, 0, .inl (nI 0))])
  | 22 => (23, [(22, .ireturn, 1, 0, 0, 0, .inl 0)])
  | n => (n, [])
theorem ck_11005 : ∀ pc, px_cks pn_i11005 (bk_11005 pc).1 pc (bk_11005 pc).2 = true := by
  intro pc
  unfold bk_11005
  split <;> first | decide +kernel | simp [px_cks]
/-- NoThree$Town.linked(II)Z -/
def bk_11006 : Nat → Nat × List px_E := fun pc => match pc with
  | 0 => (33, [(0, .aload_n 0, 1, 0, 0, 0, .inl 0), (1, .iload_n 1, 1, 1, 0, 0, .inl 0), (2, .invokevirtual 19, 3, 11002, 2, 11, .inl 0), (5, .ifCond .eq 28, 3, 33, 0, 0, .inl 0), (8, .aload_n 0, 1, 0, 0, 0, .inl 0), (9, .iload_n 2, 1, 2, 0, 0, .inl 0), (10, .invokevirtual 19, 3, 11002, 2, 11, .inl 0), (13, .ifCond .eq 20, 3, 33, 0, 0, .inl 0), (16, .aload_n 0, 1, 0, 0, 0, .inl 0), (17, .getfield 15, 3, 11, 1, 2, .inl 0), (20, .iload_n 1, 1, 1, 0, 0, .inl 0), (21, .iaload, 1, 0, 0, 0, .inl 0), (22, .iconst 1, 1, 0, 0, 0, .inl (nI 1)), (23, .iload_n 2, 1, 2, 0, 0, .inl 0), (24, .ishl, 1, 0, 0, 0, .inl 0), (25, .iand, 1, 0, 0, 0, .inl 0), (26, .ifCond .eq 7, 3, 33, 0, 0, .inl 0), (29, .iconst 1, 1, 0, 0, 0, .inl (nI 1)), (30, .goto 4, 3, 34, 0, 0, .inl 0)])
  | 33 => (34, [(33, .iconst 0, 1, 0, 0, 0, .inl (nI 0))])
  | 34 => (35, [(34, .ireturn, 1, 0, 0, 0, .inl 0)])
  | n => (n, [])
theorem ck_11006 : ∀ pc, px_cks pn_i11006 (bk_11006 pc).1 pc (bk_11006 pc).2 = true := by
  intro pc
  unfold bk_11006
  split <;> first | decide +kernel | simp [px_cks]
/-- NoThree$Town.become(LNoThree$Town;)V -/
def bk_11007 : Nat → Nat × List px_E := fun pc => match pc with
  | 0 => (10, [(0, .aload_n 0, 1, 0, 0, 0, .inl 0), (1, .aload_n 1, 1, 1, 0, 0, .inl 0), (2, .getfield 9, 3, 11, 0, 0, .inl 0), (5, .putfield 9, 3, 11, 0, 0, .inl 0), (8, .iconst 0, 1, 0, 0, 0, .inl (nI 0)), (9, .istore_n 2, 1, 2, 0, 0, .inl 0)])
  | 10 => (34, [(10, .iload_n 2, 1, 2, 0, 0, .inl 0), (11, .bipush 11, 2, 0, 0, 0, .inl (nI 11)), (13, .if_icmp .ge 21, 3, 34, 0, 0, .inl 0), (16, .aload_n 0, 1, 0, 0, 0, .inl 0), (17, .getfield 15, 3, 11, 1, 2, .inl 0), (20, .iload_n 2, 1, 2, 0, 0, .inl 0), (21, .aload_n 1, 1, 1, 0, 0, .inl 0), (22, .getfield 15, 3, 11, 1, 2, .inl 0), (25, .iload_n 2, 1, 2, 0, 0, .inl 0), (26, .iaload, 1, 0, 0, 0, .inl 0), (27, .iastore, 1, 0, 0, 0, .inl 0), (28, .iinc 2 1, 3, 2, 0, 0, .inl (nI 1)), (31, .goto (-21), 3, 10, 0, 0, .inl 0)])
  | 34 => (35, [(34, .return_, 1, 0, 0, 0, .inl 0)])
  | n => (n, [])
theorem ck_11007 : ∀ pc, px_cks pn_i11007 (bk_11007 pc).1 pc (bk_11007 pc).2 = true := by
  intro pc
  unfold bk_11007
  split <;> first | decide +kernel | simp [px_cks]
/-- NoThree$Town.clear()V -/
def bk_11008 : Nat → Nat × List px_E := fun pc => match pc with
  | 0 => (14, [(0, .aload_n 0, 1, 0, 0, 0, .inl 0), (1, .iconst 0, 1, 0, 0, 0, .inl (nI 0)), (2, .putfield 9, 3, 11, 0, 0, .inl 0), (5, .aload_n 0, 1, 0, 0, 0, .inl 0), (6, .getfield 15, 3, 11, 1, 2, .inl 0), (9, .iconst 0, 1, 0, 0, 0, .inl (nI 0)), (10, .invokestatic 23, 3, 22000, 2, 0, .inl 0), (13, .return_, 1, 0, 0, 0, .inl 0)])
  | n => (n, [])
theorem ck_11008 : ∀ pc, px_cks pn_i11008 (bk_11008 pc).1 pc (bk_11008 pc).2 = true := by
  intro pc
  unfold bk_11008
  split <;> first | decide +kernel | simp [px_cks]
/-- NoThree$Town.link(II)V -/
def bk_11009 : Nat → Nat × List px_E := fun pc => match pc with
  | 0 => (33, [(0, .aload_n 0, 1, 0, 0, 0, .inl 0), (1, .iload_n 1, 1, 1, 0, 0, .inl 0), (2, .iload_n 2, 1, 2, 0, 0, .inl 0), (3, .invokevirtual 29, 3, 11003, 3, 11, .inl 0), (6, .ifCond .eq 27, 3, 33, 0, 0, .inl 0), (9, .aload_n 0, 1, 0, 0, 0, .inl 0), (10, .getfield 15, 3, 11, 1, 2, .inl 0), (13, .iload_n 1, 1, 1, 0, 0, .inl 0), (14, .dup2, 1, 0, 0, 0, .inl 0), (15, .iaload, 1, 0, 0, 0, .inl 0), (16, .iconst 1, 1, 0, 0, 0, .inl (nI 1)), (17, .iload_n 2, 1, 2, 0, 0, .inl 0), (18, .ishl, 1, 0, 0, 0, .inl 0), (19, .ior, 1, 0, 0, 0, .inl 0), (20, .iastore, 1, 0, 0, 0, .inl 0), (21, .aload_n 0, 1, 0, 0, 0, .inl 0), (22, .getfield 15, 3, 11, 1, 2, .inl 0), (25, .iload_n 2, 1, 2, 0, 0, .inl 0), (26, .dup2, 1, 0, 0, 0, .inl 0), (27, .iaload, 1, 0, 0, 0, .inl 0), (28, .iconst 1, 1, 0, 0, 0, .inl (nI 1)), (29, .iload_n 1, 1, 1, 0, 0, .inl 0), (30, .ishl, 1, 0, 0, 0, .inl 0), (31, .ior, 1, 0, 0, 0, .inl 0), (32, .iastore, 1, 0, 0, 0, .inl 0)])
  | 33 => (34, [(33, .return_, 1, 0, 0, 0, .inl 0)])
  | n => (n, [])
theorem ck_11009 : ∀ pc, px_cks pn_i11009 (bk_11009 pc).1 pc (bk_11009 pc).2 = true := by
  intro pc
  unfold bk_11009
  split <;> first | decide +kernel | simp [px_cks]
/-- NoThree$Town.part(II)V -/
def bk_11010 : Nat → Nat × List px_E := fun pc => match pc with
  | 0 => (23, [(0, .aload_n 0, 1, 0, 0, 0, .inl 0), (1, .iload_n 1, 1, 1, 0, 0, .inl 0), (2, .iload_n 2, 1, 2, 0, 0, .inl 0), (3, .invokevirtual 29, 3, 11003, 3, 11, .inl 0), (6, .ifCond .eq 31, 3, 37, 0, 0, .inl 0), (9, .aload_n 0, 1, 0, 0, 0, .inl 0), (10, .getfield 15, 3, 11, 1, 2, .inl 0), (13, .iload_n 1, 1, 1, 0, 0, .inl 0), (14, .dup2, 1, 0, 0, 0, .inl 0), (15, .iaload, 1, 0, 0, 0, .inl 0), (16, .iconst 1, 1, 0, 0, 0, .inl (nI 1)), (17, .iload_n 2, 1, 2, 0, 0, .inl 0), (18, .ishl, 1, 0, 0, 0, .inl 0), (19, .iconst (-1), 1, 0, 0, 0, .inl (-1)), (20, .ixor, 1, 0, 0, 0, .inl 0), (21, .iand, 1, 0, 0, 0, .inl 0), (22, .iastore, 1, 0, 0, 0, .inl 0)])
  | 23 => (37, [(23, .aload_n 0, 1, 0, 0, 0, .inl 0), (24, .getfield 15, 3, 11, 1, 2, .inl 0), (27, .iload_n 2, 1, 2, 0, 0, .inl 0), (28, .dup2, 1, 0, 0, 0, .inl 0), (29, .iaload, 1, 0, 0, 0, .inl 0), (30, .iconst 1, 1, 0, 0, 0, .inl (nI 1)), (31, .iload_n 1, 1, 1, 0, 0, .inl 0), (32, .ishl, 1, 0, 0, 0, .inl 0), (33, .iconst (-1), 1, 0, 0, 0, .inl (-1)), (34, .ixor, 1, 0, 0, 0, .inl 0), (35, .iand, 1, 0, 0, 0, .inl 0), (36, .iastore, 1, 0, 0, 0, .inl 0)])
  | 37 => (38, [(37, .return_, 1, 0, 0, 0, .inl 0)])
  | n => (n, [])
theorem ck_11010 : ∀ pc, px_cks pn_i11010 (bk_11010 pc).1 pc (bk_11010 pc).2 = true := by
  intro pc
  unfold bk_11010
  split <;> first | decide +kernel | simp [px_cks]
/-- NoThree$Town.addHouse(I)V -/
def bk_11011 : Nat → Nat × List px_E := fun pc => match pc with
  | 0 => (10, [(0, .aload_n 0, 1, 0, 0, 0, .inl 0), (1, .getfield 9, 3, 11, 0, 0, .inl 0), (4, .bipush 11, 2, 0, 0, 0, .inl (nI 11)), (6, .if_icmp .lt 4, 3, 10, 0, 0, .inl 0), (9, .return_, 1, 0, 0, 0, .inl 0)])
  | 10 => (27, [(10, .aload_n 0, 1, 0, 0, 0, .inl 0), (11, .getfield 9, 3, 11, 0, 0, .inl 0), (14, .istore_n 2, 1, 2, 0, 0, .inl 0), (15, .aload_n 0, 1, 0, 0, 0, .inl 0), (16, .dup, 1, 0, 0, 0, .inl 0), (17, .getfield 9, 3, 11, 0, 0, .inl 0), (20, .iconst 1, 1, 0, 0, 0, .inl (nI 1)), (21, .iadd, 1, 0, 0, 0, .inl 0), (22, .putfield 9, 3, 11, 0, 0, .inl 0), (25, .iconst 0, 1, 0, 0, 0, .inl (nI 0)), (26, .istore_n 3, 1, 3, 0, 0, .inl 0)])
  | 27 => (46, [(27, .iload_n 3, 1, 3, 0, 0, .inl 0), (28, .iload_n 2, 1, 2, 0, 0, .inl 0), (29, .if_icmp .ge 23, 3, 52, 0, 0, .inl 0), (32, .iload_n 1, 1, 1, 0, 0, .inl 0), (33, .iconst 1, 1, 0, 0, 0, .inl (nI 1)), (34, .iload_n 3, 1, 3, 0, 0, .inl 0), (35, .ishl, 1, 0, 0, 0, .inl 0), (36, .iand, 1, 0, 0, 0, .inl 0), (37, .ifCond .eq 9, 3, 46, 0, 0, .inl 0), (40, .aload_n 0, 1, 0, 0, 0, .inl 0), (41, .iload_n 3, 1, 3, 0, 0, .inl 0), (42, .iload_n 2, 1, 2, 0, 0, .inl 0), (43, .invokevirtual 33, 3, 11009, 3, 11, .inl 0)])
  | 46 => (52, [(46, .iinc 3 1, 3, 3, 0, 0, .inl (nI 1)), (49, .goto (-22), 3, 27, 0, 0, .inl 0)])
  | 52 => (53, [(52, .return_, 1, 0, 0, 0, .inl 0)])
  | n => (n, [])
theorem ck_11011 : ∀ pc, px_cks pn_i11011 (bk_11011 pc).1 pc (bk_11011 pc).2 = true := by
  intro pc
  unfold bk_11011
  split <;> first | decide +kernel | simp [px_cks]
/-- NoThree$Town.drop(I)V -/
def bk_11012 : Nat → Nat × List px_E := fun pc => match pc with
  | 0 => (9, [(0, .aload_n 0, 1, 0, 0, 0, .inl 0), (1, .iload_n 1, 1, 1, 0, 0, .inl 0), (2, .invokevirtual 19, 3, 11002, 2, 11, .inl 0), (5, .ifCond .ne 4, 3, 9, 0, 0, .inl 0), (8, .return_, 1, 0, 0, 0, .inl 0)])
  | 9 => (11, [(9, .iload_n 1, 1, 1, 0, 0, .inl 0), (10, .istore_n 2, 1, 2, 0, 0, .inl 0)])
  | 11 => (41, [(11, .iload_n 2, 1, 2, 0, 0, .inl 0), (12, .iconst 1, 1, 0, 0, 0, .inl (nI 1)), (13, .iadd, 1, 0, 0, 0, .inl 0), (14, .aload_n 0, 1, 0, 0, 0, .inl 0), (15, .getfield 9, 3, 11, 0, 0, .inl 0), (18, .if_icmp .ge 23, 3, 41, 0, 0, .inl 0), (21, .aload_n 0, 1, 0, 0, 0, .inl 0), (22, .getfield 15, 3, 11, 1, 2, .inl 0), (25, .iload_n 2, 1, 2, 0, 0, .inl 0), (26, .aload_n 0, 1, 0, 0, 0, .inl 0), (27, .getfield 15, 3, 11, 1, 2, .inl 0), (30, .iload_n 2, 1, 2, 0, 0, .inl 0), (31, .iconst 1, 1, 0, 0, 0, .inl (nI 1)), (32, .iadd, 1, 0, 0, 0, .inl 0), (33, .iaload, 1, 0, 0, 0, .inl 0), (34, .iastore, 1, 0, 0, 0, .inl 0), (35, .iinc 2 1, 3, 2, 0, 0, .inl (nI 1)), (38, .goto (-27), 3, 11, 0, 0, .inl 0)])
  | 41 => (67, [(41, .aload_n 0, 1, 0, 0, 0, .inl 0), (42, .dup, 1, 0, 0, 0, .inl 0), (43, .getfield 9, 3, 11, 0, 0, .inl 0), (46, .iconst 1, 1, 0, 0, 0, .inl (nI 1)), (47, .isub, 1, 0, 0, 0, .inl 0), (48, .putfield 9, 3, 11, 0, 0, .inl 0), (51, .aload_n 0, 1, 0, 0, 0, .inl 0), (52, .getfield 15, 3, 11, 1, 2, .inl 0), (55, .aload_n 0, 1, 0, 0, 0, .inl 0), (56, .getfield 9, 3, 11, 0, 0, .inl 0), (59, .iconst 0, 1, 0, 0, 0, .inl (nI 0)), (60, .iastore, 1, 0, 0, 0, .inl 0), (61, .iconst 1, 1, 0, 0, 0, .inl (nI 1)), (62, .iload_n 1, 1, 1, 0, 0, .inl 0), (63, .ishl, 1, 0, 0, 0, .inl 0), (64, .iconst 1, 1, 0, 0, 0, .inl (nI 1)), (65, .isub, 1, 0, 0, 0, .inl 0), (66, .istore_n 2, 1, 2, 0, 0, .inl 0)])
  | 67 => (69, [(67, .iconst 0, 1, 0, 0, 0, .inl (nI 0)), (68, .istore_n 3, 1, 3, 0, 0, .inl 0)])
  | 69 => (110, [(69, .iload_n 3, 1, 3, 0, 0, .inl 0), (70, .aload_n 0, 1, 0, 0, 0, .inl 0), (71, .getfield 9, 3, 11, 0, 0, .inl 0), (74, .if_icmp .ge 36, 3, 110, 0, 0, .inl 0), (77, .aload_n 0, 1, 0, 0, 0, .inl 0), (78, .getfield 15, 3, 11, 1, 2, .inl 0), (81, .iload_n 3, 1, 3, 0, 0, .inl 0), (82, .aload_n 0, 1, 0, 0, 0, .inl 0), (83, .getfield 15, 3, 11, 1, 2, .inl 0), (86, .iload_n 3, 1, 3, 0, 0, .inl 0), (87, .iaload, 1, 0, 0, 0, .inl 0), (88, .iload_n 2, 1, 2, 0, 0, .inl 0), (89, .iand, 1, 0, 0, 0, .inl 0), (90, .aload_n 0, 1, 0, 0, 0, .inl 0), (91, .getfield 15, 3, 11, 1, 2, .inl 0), (94, .iload_n 3, 1, 3, 0, 0, .inl 0), (95, .iaload, 1, 0, 0, 0, .inl 0), (96, .iconst 1, 1, 0, 0, 0, .inl (nI 1)), (97, .iushr, 1, 0, 0, 0, .inl 0), (98, .iload_n 2, 1, 2, 0, 0, .inl 0), (99, .iconst (-1), 1, 0, 0, 0, .inl (-1)), (100, .ixor, 1, 0, 0, 0, .inl 0), (101, .iand, 1, 0, 0, 0, .inl 0), (102, .ior, 1, 0, 0, 0, .inl 0), (103, .iastore, 1, 0, 0, 0, .inl 0), (104, .iinc 3 1, 3, 3, 0, 0, .inl (nI 1)), (107, .goto (-38), 3, 69, 0, 0, .inl 0)])
  | 110 => (111, [(110, .return_, 1, 0, 0, 0, .inl 0)])
  | n => (n, [])
theorem ck_11012 : ∀ pc, px_cks pn_i11012 (bk_11012 pc).1 pc (bk_11012 pc).2 = true := by
  intro pc
  unfold bk_11012
  split <;> first | decide +kernel | simp [px_cks]
/-- NoThree$Town.twinAll()V -/
def bk_11013 : Nat → Nat × List px_E := fun pc => match pc with
  | 0 => (11, [(0, .aload_n 0, 1, 0, 0, 0, .inl 0), (1, .getfield 9, 3, 11, 0, 0, .inl 0), (4, .istore_n 1, 1, 1, 0, 0, .inl 0), (5, .iload_n 1, 1, 1, 0, 0, .inl 0), (6, .iconst 5, 1, 0, 0, 0, .inl (nI 5)), (7, .if_icmp .le 4, 3, 11, 0, 0, .inl 0), (10, .return_, 1, 0, 0, 0, .inl 0)])
  | 11 => (18, [(11, .aload_n 0, 1, 0, 0, 0, .inl 0), (12, .invokevirtual 37, 3, 11004, 1, 11, .inl 0), (15, .istore_n 2, 1, 2, 0, 0, .inl 0), (16, .iconst 0, 1, 0, 0, 0, .inl (nI 0)), (17, .istore_n 3, 1, 3, 0, 0, .inl 0)])
  | 18 => (41, [(18, .iload_n 3, 1, 3, 0, 0, .inl 0), (19, .iload_n 1, 1, 1, 0, 0, .inl 0), (20, .if_icmp .ge 21, 3, 41, 0, 0, .inl 0), (23, .aload_n 0, 1, 0, 0, 0, .inl 0), (24, .aload_n 0, 1, 0, 0, 0, .inl 0), (25, .getfield 15, 3, 11, 1, 2, .inl 0), (28, .iload_n 3, 1, 3, 0, 0, .inl 0), (29, .iaload, 1, 0, 0, 0, .inl 0), (30, .iload_n 2, 1, 2, 0, 0, .inl 0), (31, .iand, 1, 0, 0, 0, .inl 0), (32, .invokevirtual 41, 3, 11011, 2, 11, .inl 0), (35, .iinc 3 1, 3, 3, 0, 0, .inl (nI 1)), (38, .goto (-20), 3, 18, 0, 0, .inl 0)])
  | 41 => (54, [(41, .aload_n 0, 1, 0, 0, 0, .inl 0), (42, .aload_n 0, 1, 0, 0, 0, .inl 0), (43, .invokevirtual 37, 3, 11004, 1, 11, .inl 0), (46, .iload_n 2, 1, 2, 0, 0, .inl 0), (47, .iconst (-1), 1, 0, 0, 0, .inl (-1)), (48, .ixor, 1, 0, 0, 0, .inl 0), (49, .iand, 1, 0, 0, 0, .inl 0), (50, .invokevirtual 41, 3, 11011, 2, 11, .inl 0), (53, .return_, 1, 0, 0, 0, .inl 0)])
  | n => (n, [])
theorem ck_11013 : ∀ pc, px_cks pn_i11013 (bk_11013 pc).1 pc (bk_11013 pc).2 = true := by
  intro pc
  unfold bk_11013
  split <;> first | decide +kernel | simp [px_cks]
/-- NoThree$Town.doorsOf(I)I -/
def bk_11014 : Nat → Nat × List px_E := fun pc => match pc with
  | 0 => (9, [(0, .aload_n 0, 1, 0, 0, 0, .inl 0), (1, .iload_n 1, 1, 1, 0, 0, .inl 0), (2, .invokevirtual 45, 3, 11005, 2, 11, .inl 0), (5, .invokestatic 49, 3, 21000, 1, 0, .inl 0), (8, .ireturn, 1, 0, 0, 0, .inl 0)])
  | n => (n, [])
theorem ck_11014 : ∀ pc, px_cks pn_i11014 (bk_11014 pc).1 pc (bk_11014 pc).2 = true := by
  intro pc
  unfold bk_11014
  split <;> first | decide +kernel | simp [px_cks]
/-- NoThree$Town.doors()I -/
def bk_11015 : Nat → Nat × List px_E := fun pc => match pc with
  | 0 => (4, [(0, .iconst 0, 1, 0, 0, 0, .inl (nI 0)), (1, .istore_n 1, 1, 1, 0, 0, .inl 0), (2, .iconst 0, 1, 0, 0, 0, .inl (nI 0)), (3, .istore_n 2, 1, 2, 0, 0, .inl 0)])
  | 4 => (24, [(4, .iload_n 2, 1, 2, 0, 0, .inl 0), (5, .aload_n 0, 1, 0, 0, 0, .inl 0), (6, .getfield 9, 3, 11, 0, 0, .inl 0), (9, .if_icmp .ge 21, 3, 30, 0, 0, .inl 0), (12, .iload_n 1, 1, 1, 0, 0, .inl 0), (13, .aload_n 0, 1, 0, 0, 0, .inl 0), (14, .getfield 15, 3, 11, 1, 2, .inl 0), (17, .iload_n 2, 1, 2, 0, 0, .inl 0), (18, .iaload, 1, 0, 0, 0, .inl 0), (19, .invokestatic 49, 3, 21000, 1, 0, .inl 0), (22, .iadd, 1, 0, 0, 0, .inl 0), (23, .istore_n 1, 1, 1, 0, 0, .inl 0)])
  | 24 => (30, [(24, .iinc 2 1, 3, 2, 0, 0, .inl (nI 1)), (27, .goto (-23), 3, 4, 0, 0, .inl 0)])
  | 30 => (34, [(30, .iload_n 1, 1, 1, 0, 0, .inl 0), (31, .iconst 2, 1, 0, 0, 0, .inl (nI 2)), (32, .idiv, 1, 0, 0, 0, .inl 0), (33, .ireturn, 1, 0, 0, 0, .inl 0)])
  | n => (n, [])
theorem ck_11015 : ∀ pc, px_cks pn_i11015 (bk_11015 pc).1 pc (bk_11015 pc).2 = true := by
  intro pc
  unfold bk_11015
  split <;> first | decide +kernel | simp [px_cks]
/-- NoThree$Town.around(I)I -/
def bk_11016 : Nat → Nat × List px_E := fun pc => match pc with
  | 0 => (4, [(0, .iconst 0, 1, 0, 0, 0, .inl (nI 0)), (1, .istore_n 2, 1, 2, 0, 0, .inl 0), (2, .iconst 0, 1, 0, 0, 0, .inl (nI 0)), (3, .istore_n 3, 1, 3, 0, 0, .inl 0)])
  | 4 => (29, [(4, .iload_n 3, 1, 3, 0, 0, .inl 0), (5, .aload_n 0, 1, 0, 0, 0, .inl 0), (6, .getfield 9, 3, 11, 0, 0, .inl 0), (9, .if_icmp .ge 26, 3, 35, 0, 0, .inl 0), (12, .iload_n 1, 1, 1, 0, 0, .inl 0), (13, .iconst 1, 1, 0, 0, 0, .inl (nI 1)), (14, .iload_n 3, 1, 3, 0, 0, .inl 0), (15, .ishl, 1, 0, 0, 0, .inl 0), (16, .iand, 1, 0, 0, 0, .inl 0), (17, .ifCond .eq 12, 3, 29, 0, 0, .inl 0), (20, .iload_n 2, 1, 2, 0, 0, .inl 0), (21, .aload_n 0, 1, 0, 0, 0, .inl 0), (22, .getfield 15, 3, 11, 1, 2, .inl 0), (25, .iload_n 3, 1, 3, 0, 0, .inl 0), (26, .iaload, 1, 0, 0, 0, .inl 0), (27, .ior, 1, 0, 0, 0, .inl 0), (28, .istore_n 2, 1, 2, 0, 0, .inl 0)])
  | 29 => (35, [(29, .iinc 3 1, 3, 3, 0, 0, .inl (nI 1)), (32, .goto (-28), 3, 4, 0, 0, .inl 0)])
  | 35 => (37, [(35, .iload_n 2, 1, 2, 0, 0, .inl 0), (36, .ireturn, 1, 0, 0, 0, .inl 0)])
  | n => (n, [])
theorem ck_11016 : ∀ pc, px_cks pn_i11016 (bk_11016 pc).1 pc (bk_11016 pc).2 = true := by
  intro pc
  unfold bk_11016
  split <;> first | decide +kernel | simp [px_cks]
/-- NoThree$Town.within(II)I -/
def bk_11017 : Nat → Nat × List px_E := fun pc => match pc with
  | 0 => (14, [(0, .aload_n 0, 1, 0, 0, 0, .inl 0), (1, .iload_n 1, 1, 1, 0, 0, .inl 0), (2, .invokevirtual 19, 3, 11002, 2, 11, .inl 0), (5, .ifCond .eq 9, 3, 14, 0, 0, .inl 0), (8, .iconst 1, 1, 0, 0, 0, .inl (nI 1)), (9, .iload_n 1, 1, 1, 0, 0, .inl 0), (10, .ishl, 1, 0, 0, 0, .inl 0), (11, .goto 4, 3, 15, 0, 0, .inl 0)])
  | 14 => (15, [(14, .iconst 0, 1, 0, 0, 0, .inl (nI 0))])
  | 15 => (19, [(15, .istore_n 3, 1, 3, 0, 0, .inl 0), (16, .iconst 0, 1, 0, 0, 0, .inl (nI 0)), (17, .istore 4, 2, 4, 0, 0, .inl 0)])
  | 19 => (40, [(19, .iload 4, 2, 4, 0, 0, .inl 0), (21, .iload_n 2, 1, 2, 0, 0, .inl 0), (22, .if_icmp .ge 24, 3, 46, 0, 0, .inl 0), (25, .iload 4, 2, 4, 0, 0, .inl 0), (27, .bipush 11, 2, 0, 0, 0, .inl (nI 11)), (29, .if_icmp .ge 17, 3, 46, 0, 0, .inl 0), (32, .iload_n 3, 1, 3, 0, 0, .inl 0), (33, .aload_n 0, 1, 0, 0, 0, .inl 0), (34, .iload_n 3, 1, 3, 0, 0, .inl 0), (35, .invokevirtual 54, 3, 11016, 2, 11, .inl 0), (38, .ior, 1, 0, 0, 0, .inl 0), (39, .istore_n 3, 1, 3, 0, 0, .inl 0)])
  | 40 => (46, [(40, .iinc 4 1, 3, 4, 0, 0, .inl (nI 1)), (43, .goto (-24), 3, 19, 0, 0, .inl 0)])
  | 46 => (48, [(46, .iload_n 3, 1, 3, 0, 0, .inl 0), (47, .ireturn, 1, 0, 0, 0, .inl 0)])
  | n => (n, [])
theorem ck_11017 : ∀ pc, px_cks pn_i11017 (bk_11017 pc).1 pc (bk_11017 pc).2 = true := by
  intro pc
  unfold bk_11017
  split <;> first | decide +kernel | simp [px_cks]
/-- NoThree$Town.twoStepsFrom(I)I -/
def bk_11018 : Nat → Nat × List px_E := fun pc => match pc with
  | 0 => (24, [(0, .aload_n 0, 1, 0, 0, 0, .inl 0), (1, .aload_n 0, 1, 0, 0, 0, .inl 0), (2, .iload_n 1, 1, 1, 0, 0, .inl 0), (3, .invokevirtual 45, 3, 11005, 2, 11, .inl 0), (6, .invokevirtual 54, 3, 11016, 2, 11, .inl 0), (9, .aload_n 0, 1, 0, 0, 0, .inl 0), (10, .iload_n 1, 1, 1, 0, 0, .inl 0), (11, .invokevirtual 45, 3, 11005, 2, 11, .inl 0), (14, .iconst (-1), 1, 0, 0, 0, .inl (-1)), (15, .ixor, 1, 0, 0, 0, .inl 0), (16, .iand, 1, 0, 0, 0, .inl 0), (17, .iconst 1, 1, 0, 0, 0, .inl (nI 1)), (18, .iload_n 1, 1, 1, 0, 0, .inl 0), (19, .ishl, 1, 0, 0, 0, .inl 0), (20, .iconst (-1), 1, 0, 0, 0, .inl (-1)), (21, .ixor, 1, 0, 0, 0, .inl 0), (22, .iand, 1, 0, 0, 0, .inl 0), (23, .ireturn, 1, 0, 0, 0, .inl 0)])
  | n => (n, [])
theorem ck_11018 : ∀ pc, px_cks pn_i11018 (bk_11018 pc).1 pc (bk_11018 pc).2 = true := by
  intro pc
  unfold bk_11018
  split <;> first | decide +kernel | simp [px_cks]
/-- NoThree$Town.farthest(I)I -/
def bk_11019 : Nat → Nat × List px_E := fun pc => match pc with
  | 0 => (14, [(0, .aload_n 0, 1, 0, 0, 0, .inl 0), (1, .iload_n 1, 1, 1, 0, 0, .inl 0), (2, .invokevirtual 19, 3, 11002, 2, 11, .inl 0), (5, .ifCond .eq 9, 3, 14, 0, 0, .inl 0), (8, .iconst 1, 1, 0, 0, 0, .inl (nI 1)), (9, .iload_n 1, 1, 1, 0, 0, .inl 0), (10, .ishl, 1, 0, 0, 0, .inl 0), (11, .goto 4, 3, 15, 0, 0, .inl 0)])
  | 14 => (15, [(14, .iconst 0, 1, 0, 0, 0, .inl (nI 0))])
  | 15 => (21, [(15, .istore_n 2, 1, 2, 0, 0, .inl 0), (16, .iconst 0, 1, 0, 0, 0, .inl (nI 0)), (17, .istore_n 3, 1, 3, 0, 0, .inl 0), (18, .iconst 0, 1, 0, 0, 0, .inl (nI 0)), (19, .istore 4, 2, 4, 0, 0, .inl 0)])
  | 21 => (39, [(21, .iload 4, 2, 4, 0, 0, .inl 0), (23, .bipush 11, 2, 0, 0, 0, .inl (nI 11)), (25, .if_icmp .ge 36, 3, 61, 0, 0, .inl 0), (28, .aload_n 0, 1, 0, 0, 0, .inl 0), (29, .iload_n 2, 1, 2, 0, 0, .inl 0), (30, .invokevirtual 54, 3, 11016, 2, 11, .inl 0), (33, .iload_n 2, 1, 2, 0, 0, .inl 0), (34, .iconst (-1), 1, 0, 0, 0, .inl (-1)), (35, .ixor, 1, 0, 0, 0, .inl 0), (36, .iand, 1, 0, 0, 0, .inl 0), (37, .istore 5, 2, 5, 0, 0, .inl 0)])
  | 39 => (47, [(39, .iload 5, 2, 5, 0, 0, .inl 0), (41, .ifCond .ne 6, 3, 47, 0, 0, .inl 0), (44, .goto 17, 3, 61, 0, 0, .inl 0)])
  | 47 => (52, [(47, .iload_n 2, 1, 2, 0, 0, .inl 0), (48, .iload 5, 2, 5, 0, 0, .inl 0), (50, .ior, 1, 0, 0, 0, .inl 0), (51, .istore_n 2, 1, 2, 0, 0, .inl 0)])
  | 52 => (61, [(52, .iinc 3 1, 3, 3, 0, 0, .inl (nI 1)), (55, .iinc 4 1, 3, 4, 0, 0, .inl (nI 1)), (58, .goto (-37), 3, 21, 0, 0, .inl 0)])
  | 61 => (63, [(61, .iload_n 3, 1, 3, 0, 0, .inl 0), (62, .ireturn, 1, 0, 0, 0, .inl 0)])
  | n => (n, [])
theorem ck_11019 : ∀ pc, px_cks pn_i11019 (bk_11019 pc).1 pc (bk_11019 pc).2 = true := by
  intro pc
  unfold bk_11019
  split <;> first | decide +kernel | simp [px_cks]
/-- NoThree$Town.stepsBetween(II)I -/
def bk_11020 : Nat → Nat × List px_E := fun pc => match pc with
  | 0 => (14, [(0, .aload_n 0, 1, 0, 0, 0, .inl 0), (1, .iload_n 1, 1, 1, 0, 0, .inl 0), (2, .invokevirtual 19, 3, 11002, 2, 11, .inl 0), (5, .ifCond .eq 9, 3, 14, 0, 0, .inl 0), (8, .iconst 1, 1, 0, 0, 0, .inl (nI 1)), (9, .iload_n 1, 1, 1, 0, 0, .inl 0), (10, .ishl, 1, 0, 0, 0, .inl 0), (11, .goto 4, 3, 15, 0, 0, .inl 0)])
  | 14 => (15, [(14, .iconst 0, 1, 0, 0, 0, .inl (nI 0))])
  | 15 => (30, [(15, .istore_n 3, 1, 3, 0, 0, .inl 0), (16, .aload_n 0, 1, 0, 0, 0, .inl 0), (17, .iload_n 2, 1, 2, 0, 0, .inl 0), (18, .invokevirtual 19, 3, 11002, 2, 11, .inl 0), (21, .ifCond .eq 9, 3, 30, 0, 0, .inl 0), (24, .iconst 1, 1, 0, 0, 0, .inl (nI 1)), (25, .iload_n 2, 1, 2, 0, 0, .inl 0), (26, .ishl, 1, 0, 0, 0, .inl 0), (27, .goto 4, 3, 31, 0, 0, .inl 0)])
  | 30 => (31, [(30, .iconst 0, 1, 0, 0, 0, .inl (nI 0))])
  | 31 => (33, [(31, .istore 4, 2, 4, 0, 0, .inl 0)])
  | 33 => (36, [(33, .iconst 0, 1, 0, 0, 0, .inl (nI 0)), (34, .istore 5, 2, 5, 0, 0, .inl 0)])
  | 36 => (53, [(36, .iload 5, 2, 5, 0, 0, .inl 0), (38, .bipush 11, 2, 0, 0, 0, .inl (nI 11)), (40, .if_icmp .ge 43, 3, 83, 0, 0, .inl 0), (43, .iload_n 3, 1, 3, 0, 0, .inl 0), (44, .iload 4, 2, 4, 0, 0, .inl 0), (46, .iand, 1, 0, 0, 0, .inl 0), (47, .ifCond .eq 6, 3, 53, 0, 0, .inl 0), (50, .iload 5, 2, 5, 0, 0, .inl 0), (52, .ireturn, 1, 0, 0, 0, .inl 0)])
  | 53 => (64, [(53, .aload_n 0, 1, 0, 0, 0, .inl 0), (54, .iload_n 3, 1, 3, 0, 0, .inl 0), (55, .invokevirtual 54, 3, 11016, 2, 11, .inl 0), (58, .iload_n 3, 1, 3, 0, 0, .inl 0), (59, .iconst (-1), 1, 0, 0, 0, .inl (-1)), (60, .ixor, 1, 0, 0, 0, .inl 0), (61, .iand, 1, 0, 0, 0, .inl 0), (62, .istore 6, 2, 6, 0, 0, .inl 0)])
  | 64 => (72, [(64, .iload 6, 2, 6, 0, 0, .inl 0), (66, .ifCond .ne 6, 3, 72, 0, 0, .inl 0), (69, .goto 14, 3, 83, 0, 0, .inl 0)])
  | 72 => (77, [(72, .iload_n 3, 1, 3, 0, 0, .inl 0), (73, .iload 6, 2, 6, 0, 0, .inl 0), (75, .ior, 1, 0, 0, 0, .inl 0), (76, .istore_n 3, 1, 3, 0, 0, .inl 0)])
  | 77 => (83, [(77, .iinc 5 1, 3, 5, 0, 0, .inl (nI 1)), (80, .goto (-44), 3, 36, 0, 0, .inl 0)])
  | 83 => (85, [(83, .iconst (-1), 1, 0, 0, 0, .inl (-1)), (84, .ireturn, 1, 0, 0, 0, .inl 0)])
  | n => (n, [])
theorem ck_11020 : ∀ pc, px_cks pn_i11020 (bk_11020 pc).1 pc (bk_11020 pc).2 = true := by
  intro pc
  unfold bk_11020
  split <;> first | decide +kernel | simp [px_cks]
/-- NoThree$Town.parts()I -/
def bk_11021 : Nat → Nat × List px_E := fun pc => match pc with
  | 0 => (6, [(0, .iconst 0, 1, 0, 0, 0, .inl (nI 0)), (1, .istore_n 1, 1, 1, 0, 0, .inl 0), (2, .iconst 0, 1, 0, 0, 0, .inl (nI 0)), (3, .istore_n 2, 1, 2, 0, 0, .inl 0), (4, .iconst 0, 1, 0, 0, 0, .inl (nI 0)), (5, .istore_n 3, 1, 3, 0, 0, .inl 0)])
  | 6 => (32, [(6, .iload_n 3, 1, 3, 0, 0, .inl 0), (7, .aload_n 0, 1, 0, 0, 0, .inl 0), (8, .getfield 9, 3, 11, 0, 0, .inl 0), (11, .if_icmp .ge 30, 3, 41, 0, 0, .inl 0), (14, .iload_n 1, 1, 1, 0, 0, .inl 0), (15, .iconst 1, 1, 0, 0, 0, .inl (nI 1)), (16, .iload_n 3, 1, 3, 0, 0, .inl 0), (17, .ishl, 1, 0, 0, 0, .inl 0), (18, .iand, 1, 0, 0, 0, .inl 0), (19, .ifCond .ne 16, 3, 35, 0, 0, .inl 0), (22, .iload_n 1, 1, 1, 0, 0, .inl 0), (23, .aload_n 0, 1, 0, 0, 0, .inl 0), (24, .iload_n 3, 1, 3, 0, 0, .inl 0), (25, .bipush 11, 2, 0, 0, 0, .inl (nI 11)), (27, .invokevirtual 57, 3, 11017, 3, 11, .inl 0), (30, .ior, 1, 0, 0, 0, .inl 0), (31, .istore_n 1, 1, 1, 0, 0, .inl 0)])
  | 32 => (35, [(32, .iinc 2 1, 3, 2, 0, 0, .inl (nI 1))])
  | 35 => (41, [(35, .iinc 3 1, 3, 3, 0, 0, .inl (nI 1)), (38, .goto (-32), 3, 6, 0, 0, .inl 0)])
  | 41 => (43, [(41, .iload_n 2, 1, 2, 0, 0, .inl 0), (42, .ireturn, 1, 0, 0, 0, .inl 0)])
  | n => (n, [])
theorem ck_11021 : ∀ pc, px_cks pn_i11021 (bk_11021 pc).1 pc (bk_11021 pc).2 = true := by
  intro pc
  unfold bk_11021
  split <;> first | decide +kernel | simp [px_cks]
/-- NoThree$Town.threesWith(I)I -/
def bk_11022 : Nat → Nat × List px_E := fun pc => match pc with
  | 0 => (4, [(0, .iconst 0, 1, 0, 0, 0, .inl (nI 0)), (1, .istore_n 2, 1, 2, 0, 0, .inl 0), (2, .iconst 0, 1, 0, 0, 0, .inl (nI 0)), (3, .istore_n 3, 1, 3, 0, 0, .inl 0)])
  | 4 => (24, [(4, .iload_n 3, 1, 3, 0, 0, .inl 0), (5, .aload_n 0, 1, 0, 0, 0, .inl 0), (6, .getfield 9, 3, 11, 0, 0, .inl 0), (9, .if_icmp .ge 40, 3, 49, 0, 0, .inl 0), (12, .aload_n 0, 1, 0, 0, 0, .inl 0), (13, .iload_n 1, 1, 1, 0, 0, .inl 0), (14, .invokevirtual 45, 3, 11005, 2, 11, .inl 0), (17, .iconst 1, 1, 0, 0, 0, .inl (nI 1)), (18, .iload_n 3, 1, 3, 0, 0, .inl 0), (19, .ishl, 1, 0, 0, 0, .inl 0), (20, .iand, 1, 0, 0, 0, .inl 0), (21, .ifCond .eq 22, 3, 43, 0, 0, .inl 0)])
  | 24 => (43, [(24, .iload_n 2, 1, 2, 0, 0, .inl 0), (25, .aload_n 0, 1, 0, 0, 0, .inl 0), (26, .getfield 15, 3, 11, 1, 2, .inl 0), (29, .iload_n 1, 1, 1, 0, 0, .inl 0), (30, .iaload, 1, 0, 0, 0, .inl 0), (31, .aload_n 0, 1, 0, 0, 0, .inl 0), (32, .getfield 15, 3, 11, 1, 2, .inl 0), (35, .iload_n 3, 1, 3, 0, 0, .inl 0), (36, .iaload, 1, 0, 0, 0, .inl 0), (37, .iand, 1, 0, 0, 0, .inl 0), (38, .invokestatic 49, 3, 21000, 1, 0, .inl 0), (41, .iadd, 1, 0, 0, 0, .inl 0), (42, .istore_n 2, 1, 2, 0, 0, .inl 0)])
  | 43 => (49, [(43, .iinc 3 1, 3, 3, 0, 0, .inl (nI 1)), (46, .goto (-42), 3, 4, 0, 0, .inl 0)])
  | 49 => (53, [(49, .iload_n 2, 1, 2, 0, 0, .inl 0), (50, .iconst 2, 1, 0, 0, 0, .inl (nI 2)), (51, .idiv, 1, 0, 0, 0, .inl 0), (52, .ireturn, 1, 0, 0, 0, .inl 0)])
  | n => (n, [])
theorem ck_11022 : ∀ pc, px_cks pn_i11022 (bk_11022 pc).1 pc (bk_11022 pc).2 = true := by
  intro pc
  unfold bk_11022
  split <;> first | decide +kernel | simp [px_cks]
/-- NoThree$Town.threes()I -/
def bk_11023 : Nat → Nat × List px_E := fun pc => match pc with
  | 0 => (4, [(0, .iconst 0, 1, 0, 0, 0, .inl (nI 0)), (1, .istore_n 1, 1, 1, 0, 0, .inl 0), (2, .iconst 0, 1, 0, 0, 0, .inl (nI 0)), (3, .istore_n 2, 1, 2, 0, 0, .inl 0)])
  | 4 => (16, [(4, .iload_n 2, 1, 2, 0, 0, .inl 0), (5, .aload_n 0, 1, 0, 0, 0, .inl 0), (6, .getfield 9, 3, 11, 0, 0, .inl 0), (9, .if_icmp .ge 48, 3, 57, 0, 0, .inl 0), (12, .iload_n 2, 1, 2, 0, 0, .inl 0), (13, .iconst 1, 1, 0, 0, 0, .inl (nI 1)), (14, .iadd, 1, 0, 0, 0, .inl 0), (15, .istore_n 3, 1, 3, 0, 0, .inl 0)])
  | 16 => (45, [(16, .iload_n 3, 1, 3, 0, 0, .inl 0), (17, .aload_n 0, 1, 0, 0, 0, .inl 0), (18, .getfield 9, 3, 11, 0, 0, .inl 0), (21, .if_icmp .ge 30, 3, 51, 0, 0, .inl 0), (24, .aload_n 0, 1, 0, 0, 0, .inl 0), (25, .iload_n 2, 1, 2, 0, 0, .inl 0), (26, .iload_n 3, 1, 3, 0, 0, .inl 0), (27, .invokevirtual 61, 3, 11006, 3, 11, .inl 0), (30, .ifCond .eq 15, 3, 45, 0, 0, .inl 0), (33, .iload_n 1, 1, 1, 0, 0, .inl 0), (34, .aload_n 0, 1, 0, 0, 0, .inl 0), (35, .iload_n 2, 1, 2, 0, 0, .inl 0), (36, .iload_n 3, 1, 3, 0, 0, .inl 0), (37, .invokevirtual 64, 3, 11025, 3, 11, .inl 0), (40, .invokestatic 49, 3, 21000, 1, 0, .inl 0), (43, .iadd, 1, 0, 0, 0, .inl 0), (44, .istore_n 1, 1, 1, 0, 0, .inl 0)])
  | 45 => (51, [(45, .iinc 3 1, 3, 3, 0, 0, .inl (nI 1)), (48, .goto (-32), 3, 16, 0, 0, .inl 0)])
  | 51 => (57, [(51, .iinc 2 1, 3, 2, 0, 0, .inl (nI 1)), (54, .goto (-50), 3, 4, 0, 0, .inl 0)])
  | 57 => (59, [(57, .iload_n 1, 1, 1, 0, 0, .inl 0), (58, .ireturn, 1, 0, 0, 0, .inl 0)])
  | n => (n, [])
theorem ck_11023 : ∀ pc, px_cks pn_i11023 (bk_11023 pc).1 pc (bk_11023 pc).2 = true := by
  intro pc
  unfold bk_11023
  split <;> first | decide +kernel | simp [px_cks]
/-- NoThree$Town.threeAt(I)I -/
def bk_11024 : Nat → Nat × List px_E := fun pc => match pc with
  | 0 => (4, [(0, .iload_n 1, 1, 1, 0, 0, .inl 0), (1, .istore_n 2, 1, 2, 0, 0, .inl 0), (2, .iconst 0, 1, 0, 0, 0, .inl (nI 0)), (3, .istore_n 3, 1, 3, 0, 0, .inl 0)])
  | 4 => (17, [(4, .iload_n 3, 1, 3, 0, 0, .inl 0), (5, .aload_n 0, 1, 0, 0, 0, .inl 0), (6, .getfield 9, 3, 11, 0, 0, .inl 0), (9, .if_icmp .ge 108, 3, 117, 0, 0, .inl 0), (12, .iload_n 3, 1, 3, 0, 0, .inl 0), (13, .iconst 1, 1, 0, 0, 0, .inl (nI 1)), (14, .iadd, 1, 0, 0, 0, .inl 0), (15, .istore 4, 2, 4, 0, 0, .inl 0)])
  | 17 => (46, [(17, .iload 4, 2, 4, 0, 0, .inl 0), (19, .aload_n 0, 1, 0, 0, 0, .inl 0), (20, .getfield 9, 3, 11, 0, 0, .inl 0), (23, .if_icmp .ge 88, 3, 111, 0, 0, .inl 0), (26, .aload_n 0, 1, 0, 0, 0, .inl 0), (27, .iload_n 3, 1, 3, 0, 0, .inl 0), (28, .iload 4, 2, 4, 0, 0, .inl 0), (30, .invokevirtual 61, 3, 11006, 3, 11, .inl 0), (33, .ifCond .eq 13, 3, 46, 0, 0, .inl 0), (36, .aload_n 0, 1, 0, 0, 0, .inl 0), (37, .iload_n 3, 1, 3, 0, 0, .inl 0), (38, .iload 4, 2, 4, 0, 0, .inl 0), (40, .invokevirtual 64, 3, 11025, 3, 11, .inl 0), (43, .goto 4, 3, 47, 0, 0, .inl 0)])
  | 46 => (47, [(46, .iconst 0, 1, 0, 0, 0, .inl (nI 0))])
  | 47 => (49, [(47, .istore 5, 2, 5, 0, 0, .inl 0)])
  | 49 => (55, [(49, .iload 4, 2, 4, 0, 0, .inl 0), (51, .iconst 1, 1, 0, 0, 0, .inl (nI 1)), (52, .iadd, 1, 0, 0, 0, .inl 0), (53, .istore 6, 2, 6, 0, 0, .inl 0)])
  | 55 => (77, [(55, .iload 6, 2, 6, 0, 0, .inl 0), (57, .aload_n 0, 1, 0, 0, 0, .inl 0), (58, .getfield 9, 3, 11, 0, 0, .inl 0), (61, .if_icmp .ge 44, 3, 105, 0, 0, .inl 0), (64, .iload 5, 2, 5, 0, 0, .inl 0), (66, .iconst 1, 1, 0, 0, 0, .inl (nI 1)), (67, .iload 6, 2, 6, 0, 0, .inl 0), (69, .ishl, 1, 0, 0, 0, .inl 0), (70, .iand, 1, 0, 0, 0, .inl 0), (71, .ifCond .ne 6, 3, 77, 0, 0, .inl 0), (74, .goto 25, 3, 99, 0, 0, .inl 0)])
  | 77 => (96, [(77, .iload_n 2, 1, 2, 0, 0, .inl 0), (78, .ifCond .ne 18, 3, 96, 0, 0, .inl 0), (81, .sipush 10000, 3, 0, 0, 0, .inl (nI 10000)), (84, .iload_n 3, 1, 3, 0, 0, .inl 0), (85, .imul, 1, 0, 0, 0, .inl 0), (86, .bipush 100, 2, 0, 0, 0, .inl (nI 100)), (88, .iload 4, 2, 4, 0, 0, .inl 0), (90, .imul, 1, 0, 0, 0, .inl 0), (91, .iadd, 1, 0, 0, 0, .inl 0), (92, .iload 6, 2, 6, 0, 0, .inl 0), (94, .iadd, 1, 0, 0, 0, .inl 0), (95, .ireturn, 1, 0, 0, 0, .inl 0)])
  | 96 => (99, [(96, .iinc 2 (-1), 3, 2, 0, 0, .inl (-1))])
  | 99 => (105, [(99, .iinc 6 1, 3, 6, 0, 0, .inl (nI 1)), (102, .goto (-47), 3, 55, 0, 0, .inl 0)])
  | 105 => (111, [(105, .iinc 4 1, 3, 4, 0, 0, .inl (nI 1)), (108, .goto (-91), 3, 17, 0, 0, .inl 0)])
  | 111 => (117, [(111, .iinc 3 1, 3, 3, 0, 0, .inl (nI 1)), (114, .goto (-110), 3, 4, 0, 0, .inl 0)])
  | 117 => (119, [(117, .iconst (-1), 1, 0, 0, 0, .inl (-1)), (118, .ireturn, 1, 0, 0, 0, .inl 0)])
  | n => (n, [])
theorem ck_11024 : ∀ pc, px_cks pn_i11024 (bk_11024 pc).1 pc (bk_11024 pc).2 = true := by
  intro pc
  unfold bk_11024
  split <;> first | decide +kernel | simp [px_cks]
/-- NoThree$Town.commonAbove(II)I -/
def bk_11025 : Nat → Nat × List px_E := fun pc => match pc with
  | 0 => (19, [(0, .aload_n 0, 1, 0, 0, 0, .inl 0), (1, .getfield 15, 3, 11, 1, 2, .inl 0), (4, .iload_n 1, 1, 1, 0, 0, .inl 0), (5, .iaload, 1, 0, 0, 0, .inl 0), (6, .aload_n 0, 1, 0, 0, 0, .inl 0), (7, .getfield 15, 3, 11, 1, 2, .inl 0), (10, .iload_n 2, 1, 2, 0, 0, .inl 0), (11, .iaload, 1, 0, 0, 0, .inl 0), (12, .iand, 1, 0, 0, 0, .inl 0), (13, .bipush (-2), 2, 0, 0, 0, .inl (-2)), (15, .iload_n 2, 1, 2, 0, 0, .inl 0), (16, .ishl, 1, 0, 0, 0, .inl 0), (17, .iand, 1, 0, 0, 0, .inl 0), (18, .ireturn, 1, 0, 0, 0, .inl 0)])
  | n => (n, [])
theorem ck_11025 : ∀ pc, px_cks pn_i11025 (bk_11025 pc).1 pc (bk_11025 pc).2 = true := by
  intro pc
  unfold bk_11025
  split <;> first | decide +kernel | simp [px_cks]
/-- NoThree$Town.roundsBy(I)I -/
def bk_11026 : Nat → Nat × List px_E := fun pc => match pc with
  | 0 => (8, [(0, .iload_n 0, 1, 0, 0, 0, .inl 0), (1, .iload_n 0, 1, 0, 0, 0, .inl 0), (2, .iconst 1, 1, 0, 0, 0, .inl (nI 1)), (3, .isub, 1, 0, 0, 0, .inl 0), (4, .imul, 1, 0, 0, 0, .inl 0), (5, .iconst 2, 1, 0, 0, 0, .inl (nI 2)), (6, .idiv, 1, 0, 0, 0, .inl 0), (7, .ireturn, 1, 0, 0, 0, .inl 0)])
  | n => (n, [])
theorem ck_11026 : ∀ pc, px_cks pn_i11026 (bk_11026 pc).1 pc (bk_11026 pc).2 = true := by
  intro pc
  unfold bk_11026
  split <;> first | decide +kernel | simp [px_cks]
/-- NoThree$Town.foursWith(I)I -/
def bk_11027 : Nat → Nat × List px_E := fun pc => match pc with
  | 0 => (4, [(0, .iconst 0, 1, 0, 0, 0, .inl (nI 0)), (1, .istore_n 2, 1, 2, 0, 0, .inl 0), (2, .iconst 0, 1, 0, 0, 0, .inl (nI 0)), (3, .istore_n 3, 1, 3, 0, 0, .inl 0)])
  | 4 => (38, [(4, .iload_n 3, 1, 3, 0, 0, .inl 0), (5, .aload_n 0, 1, 0, 0, 0, .inl 0), (6, .getfield 9, 3, 11, 0, 0, .inl 0), (9, .if_icmp .ge 35, 3, 44, 0, 0, .inl 0), (12, .iload_n 3, 1, 3, 0, 0, .inl 0), (13, .iload_n 1, 1, 1, 0, 0, .inl 0), (14, .if_icmp .eq 24, 3, 38, 0, 0, .inl 0), (17, .iload_n 2, 1, 2, 0, 0, .inl 0), (18, .aload_n 0, 1, 0, 0, 0, .inl 0), (19, .iload_n 1, 1, 1, 0, 0, .inl 0), (20, .invokevirtual 45, 3, 11005, 2, 11, .inl 0), (23, .aload_n 0, 1, 0, 0, 0, .inl 0), (24, .getfield 15, 3, 11, 1, 2, .inl 0), (27, .iload_n 3, 1, 3, 0, 0, .inl 0), (28, .iaload, 1, 0, 0, 0, .inl 0), (29, .iand, 1, 0, 0, 0, .inl 0), (30, .invokestatic 49, 3, 21000, 1, 0, .inl 0), (33, .invokestatic 67, 3, 11026, 1, 0, .inl 0), (36, .iadd, 1, 0, 0, 0, .inl 0), (37, .istore_n 2, 1, 2, 0, 0, .inl 0)])
  | 38 => (44, [(38, .iinc 3 1, 3, 3, 0, 0, .inl (nI 1)), (41, .goto (-37), 3, 4, 0, 0, .inl 0)])
  | 44 => (46, [(44, .iload_n 2, 1, 2, 0, 0, .inl 0), (45, .ireturn, 1, 0, 0, 0, .inl 0)])
  | n => (n, [])
theorem ck_11027 : ∀ pc, px_cks pn_i11027 (bk_11027 pc).1 pc (bk_11027 pc).2 = true := by
  intro pc
  unfold bk_11027
  split <;> first | decide +kernel | simp [px_cks]
/-- NoThree$Town.roundsOfFour()I -/
def bk_11028 : Nat → Nat × List px_E := fun pc => match pc with
  | 0 => (4, [(0, .iconst 0, 1, 0, 0, 0, .inl (nI 0)), (1, .istore_n 1, 1, 1, 0, 0, .inl 0), (2, .iconst 0, 1, 0, 0, 0, .inl (nI 0)), (3, .istore_n 2, 1, 2, 0, 0, .inl 0)])
  | 4 => (16, [(4, .iload_n 2, 1, 2, 0, 0, .inl 0), (5, .aload_n 0, 1, 0, 0, 0, .inl 0), (6, .getfield 9, 3, 11, 0, 0, .inl 0), (9, .if_icmp .ge 49, 3, 58, 0, 0, .inl 0), (12, .iload_n 2, 1, 2, 0, 0, .inl 0), (13, .iconst 1, 1, 0, 0, 0, .inl (nI 1)), (14, .iadd, 1, 0, 0, 0, .inl 0), (15, .istore_n 3, 1, 3, 0, 0, .inl 0)])
  | 16 => (46, [(16, .iload_n 3, 1, 3, 0, 0, .inl 0), (17, .aload_n 0, 1, 0, 0, 0, .inl 0), (18, .getfield 9, 3, 11, 0, 0, .inl 0), (21, .if_icmp .ge 31, 3, 52, 0, 0, .inl 0), (24, .iload_n 1, 1, 1, 0, 0, .inl 0), (25, .aload_n 0, 1, 0, 0, 0, .inl 0), (26, .getfield 15, 3, 11, 1, 2, .inl 0), (29, .iload_n 2, 1, 2, 0, 0, .inl 0), (30, .iaload, 1, 0, 0, 0, .inl 0), (31, .aload_n 0, 1, 0, 0, 0, .inl 0), (32, .getfield 15, 3, 11, 1, 2, .inl 0), (35, .iload_n 3, 1, 3, 0, 0, .inl 0), (36, .iaload, 1, 0, 0, 0, .inl 0), (37, .iand, 1, 0, 0, 0, .inl 0), (38, .invokestatic 49, 3, 21000, 1, 0, .inl 0), (41, .invokestatic 67, 3, 11026, 1, 0, .inl 0), (44, .iadd, 1, 0, 0, 0, .inl 0), (45, .istore_n 1, 1, 1, 0, 0, .inl 0)])
  | 46 => (52, [(46, .iinc 3 1, 3, 3, 0, 0, .inl (nI 1)), (49, .goto (-33), 3, 16, 0, 0, .inl 0)])
  | 52 => (58, [(52, .iinc 2 1, 3, 2, 0, 0, .inl (nI 1)), (55, .goto (-51), 3, 4, 0, 0, .inl 0)])
  | 58 => (62, [(58, .iload_n 1, 1, 1, 0, 0, .inl 0), (59, .iconst 2, 1, 0, 0, 0, .inl (nI 2)), (60, .idiv, 1, 0, 0, 0, .inl 0), (61, .ireturn, 1, 0, 0, 0, .inl 0)])
  | n => (n, [])
theorem ck_11028 : ∀ pc, px_cks pn_i11028 (bk_11028 pc).1 pc (bk_11028 pc).2 = true := by
  intro pc
  unfold bk_11028
  split <;> first | decide +kernel | simp [px_cks]
/-- NoThree$Town.leastOddRing()I -/
def bk_11029 : Nat → Nat × List px_E := fun pc => match pc with
  | 0 => (4, [(0, .iconst (-1), 1, 0, 0, 0, .inl (-1)), (1, .istore_n 1, 1, 1, 0, 0, .inl 0), (2, .iconst 0, 1, 0, 0, 0, .inl (nI 0)), (3, .istore_n 2, 1, 2, 0, 0, .inl 0)])
  | 4 => (33, [(4, .iload_n 2, 1, 2, 0, 0, .inl 0), (5, .aload_n 0, 1, 0, 0, 0, .inl 0), (6, .getfield 9, 3, 11, 0, 0, .inl 0), (9, .if_icmp .ge 32, 3, 41, 0, 0, .inl 0), (12, .aload_n 0, 1, 0, 0, 0, .inl 0), (13, .iload_n 2, 1, 2, 0, 0, .inl 0), (14, .invokevirtual 70, 3, 11030, 2, 11, .inl 0), (17, .istore_n 3, 1, 3, 0, 0, .inl 0), (18, .iload_n 3, 1, 3, 0, 0, .inl 0), (19, .iconst (-1), 1, 0, 0, 0, .inl (-1)), (20, .if_icmp .eq 15, 3, 35, 0, 0, .inl 0), (23, .iload_n 1, 1, 1, 0, 0, .inl 0), (24, .iconst (-1), 1, 0, 0, 0, .inl (-1)), (25, .if_icmp .eq 8, 3, 33, 0, 0, .inl 0), (28, .iload_n 3, 1, 3, 0, 0, .inl 0), (29, .iload_n 1, 1, 1, 0, 0, .inl 0), (30, .if_icmp .ge 5, 3, 35, 0, 0, .inl 0)])
  | 33 => (35, [(33, .iload_n 3, 1, 3, 0, 0, .inl 0), (34, .istore_n 1, 1, 1, 0, 0, .inl 0)])
  | 35 => (41, [(35, .iinc 2 1, 3, 2, 0, 0, .inl (nI 1)), (38, .goto (-34), 3, 4, 0, 0, .inl 0)])
  | 41 => (43, [(41, .iload_n 1, 1, 1, 0, 0, .inl 0), (42, .ireturn, 1, 0, 0, 0, .inl 0)])
  | n => (n, [])
theorem ck_11029 : ∀ pc, px_cks pn_i11029 (bk_11029 pc).1 pc (bk_11029 pc).2 = true := by
  intro pc
  unfold bk_11029
  split <;> first | decide +kernel | simp [px_cks]
/-- NoThree$Town.leastOddWalk(I)I -/
def bk_11030 : Nat → Nat × List px_E := fun pc => match pc with
  | 0 => (4, [(0, .iconst 1, 1, 0, 0, 0, .inl (nI 1)), (1, .iload_n 1, 1, 1, 0, 0, .inl 0), (2, .ishl, 1, 0, 0, 0, .inl 0), (3, .istore_n 2, 1, 2, 0, 0, .inl 0)])
  | 4 => (12, [(4, .iconst 0, 1, 0, 0, 0, .inl (nI 0)), (5, .istore_n 3, 1, 3, 0, 0, .inl 0), (6, .iload_n 2, 1, 2, 0, 0, .inl 0), (7, .istore 4, 2, 4, 0, 0, .inl 0), (9, .iconst 1, 1, 0, 0, 0, .inl (nI 1)), (10, .istore 5, 2, 5, 0, 0, .inl 0)])
  | 12 => (31, [(12, .iload 5, 2, 5, 0, 0, .inl 0), (14, .bipush 22, 2, 0, 0, 0, .inl (nI 22)), (16, .if_icmp .gt 80, 3, 96, 0, 0, .inl 0), (19, .iload 5, 2, 5, 0, 0, .inl 0), (21, .iconst 2, 1, 0, 0, 0, .inl (nI 2)), (22, .irem, 1, 0, 0, 0, .inl 0), (23, .iconst 1, 1, 0, 0, 0, .inl (nI 1)), (24, .if_icmp .ne 7, 3, 31, 0, 0, .inl 0), (27, .iconst 1, 1, 0, 0, 0, .inl (nI 1)), (28, .goto 4, 3, 32, 0, 0, .inl 0)])
  | 31 => (32, [(31, .iconst 0, 1, 0, 0, 0, .inl (nI 0))])
  | 32 => (49, [(32, .istore 6, 2, 6, 0, 0, .inl 0), (34, .aload_n 0, 1, 0, 0, 0, .inl 0), (35, .iload 4, 2, 4, 0, 0, .inl 0), (37, .invokevirtual 54, 3, 11016, 2, 11, .inl 0), (40, .iload 6, 2, 6, 0, 0, .inl 0), (42, .ifCond .eq 7, 3, 49, 0, 0, .inl 0), (45, .iload_n 3, 1, 3, 0, 0, .inl 0), (46, .goto 4, 3, 50, 0, 0, .inl 0)])
  | 49 => (50, [(49, .iload_n 2, 1, 2, 0, 0, .inl 0)])
  | 50 => (55, [(50, .iconst (-1), 1, 0, 0, 0, .inl (-1)), (51, .ixor, 1, 0, 0, 0, .inl 0), (52, .iand, 1, 0, 0, 0, .inl 0), (53, .istore 4, 2, 4, 0, 0, .inl 0)])
  | 55 => (72, [(55, .iload 6, 2, 6, 0, 0, .inl 0), (57, .ifCond .eq 15, 3, 72, 0, 0, .inl 0), (60, .iload 4, 2, 4, 0, 0, .inl 0), (62, .iconst 1, 1, 0, 0, 0, .inl (nI 1)), (63, .iload_n 1, 1, 1, 0, 0, .inl 0), (64, .ishl, 1, 0, 0, 0, .inl 0), (65, .iand, 1, 0, 0, 0, .inl 0), (66, .ifCond .eq 6, 3, 72, 0, 0, .inl 0), (69, .iload 5, 2, 5, 0, 0, .inl 0), (71, .ireturn, 1, 0, 0, 0, .inl 0)])
  | 72 => (85, [(72, .iload 6, 2, 6, 0, 0, .inl 0), (74, .ifCond .eq 11, 3, 85, 0, 0, .inl 0), (77, .iload_n 3, 1, 3, 0, 0, .inl 0), (78, .iload 4, 2, 4, 0, 0, .inl 0), (80, .ior, 1, 0, 0, 0, .inl 0), (81, .istore_n 3, 1, 3, 0, 0, .inl 0), (82, .goto 8, 3, 90, 0, 0, .inl 0)])
  | 85 => (90, [(85, .iload_n 2, 1, 2, 0, 0, .inl 0), (86, .iload 4, 2, 4, 0, 0, .inl 0), (88, .ior, 1, 0, 0, 0, .inl 0), (89, .istore_n 2, 1, 2, 0, 0, .inl 0)])
  | 90 => (96, [(90, .iinc 5 1, 3, 5, 0, 0, .inl (nI 1)), (93, .goto (-81), 3, 12, 0, 0, .inl 0)])
  | 96 => (98, [(96, .iconst (-1), 1, 0, 0, 0, .inl (-1)), (97, .ireturn, 1, 0, 0, 0, .inl 0)])
  | n => (n, [])
theorem ck_11030 : ∀ pc, px_cks pn_i11030 (bk_11030 pc).1 pc (bk_11030 pc).2 = true := by
  intro pc
  unfold bk_11030
  split <;> first | decide +kernel | simp [px_cks]
/-- NoThree$Town.firstHalf(I)I -/
def bk_11031 : Nat → Nat × List px_E := fun pc => match pc with
  | 0 => (7, [(0, .iconst 0, 1, 0, 0, 0, .inl (nI 0)), (1, .istore_n 2, 1, 2, 0, 0, .inl 0), (2, .iconst 0, 1, 0, 0, 0, .inl (nI 0)), (3, .istore_n 3, 1, 3, 0, 0, .inl 0), (4, .iconst 0, 1, 0, 0, 0, .inl (nI 0)), (5, .istore 4, 2, 4, 0, 0, .inl 0)])
  | 7 => (36, [(7, .iload 4, 2, 4, 0, 0, .inl 0), (9, .aload_n 0, 1, 0, 0, 0, .inl 0), (10, .getfield 9, 3, 11, 0, 0, .inl 0), (13, .if_icmp .ge 111, 3, 124, 0, 0, .inl 0), (16, .iload_n 1, 1, 1, 0, 0, .inl 0), (17, .iload_n 2, 1, 2, 0, 0, .inl 0), (18, .iconst (-1), 1, 0, 0, 0, .inl (-1)), (19, .ixor, 1, 0, 0, 0, .inl 0), (20, .iand, 1, 0, 0, 0, .inl 0), (21, .iload_n 3, 1, 3, 0, 0, .inl 0), (22, .iconst (-1), 1, 0, 0, 0, .inl (-1)), (23, .ixor, 1, 0, 0, 0, .inl 0), (24, .iand, 1, 0, 0, 0, .inl 0), (25, .iconst 1, 1, 0, 0, 0, .inl (nI 1)), (26, .iload 4, 2, 4, 0, 0, .inl 0), (28, .ishl, 1, 0, 0, 0, .inl 0), (29, .iand, 1, 0, 0, 0, .inl 0), (30, .ifCond .ne 6, 3, 36, 0, 0, .inl 0), (33, .goto 85, 3, 118, 0, 0, .inl 0)])
  | 36 => (42, [(36, .iconst 1, 1, 0, 0, 0, .inl (nI 1)), (37, .iload 4, 2, 4, 0, 0, .inl 0), (39, .ishl, 1, 0, 0, 0, .inl 0), (40, .istore 5, 2, 5, 0, 0, .inl 0)])
  | 42 => (48, [(42, .iconst 0, 1, 0, 0, 0, .inl (nI 0)), (43, .istore 6, 2, 6, 0, 0, .inl 0), (45, .iconst 0, 1, 0, 0, 0, .inl (nI 0)), (46, .istore 7, 2, 7, 0, 0, .inl 0)])
  | 48 => (65, [(48, .iload 7, 2, 7, 0, 0, .inl 0), (50, .bipush 11, 2, 0, 0, 0, .inl (nI 11)), (52, .if_icmp .ge 46, 3, 98, 0, 0, .inl 0), (55, .aload_n 0, 1, 0, 0, 0, .inl 0), (56, .iload 5, 2, 5, 0, 0, .inl 0), (58, .invokevirtual 54, 3, 11016, 2, 11, .inl 0), (61, .iload_n 1, 1, 1, 0, 0, .inl 0), (62, .iand, 1, 0, 0, 0, .inl 0), (63, .istore 8, 2, 8, 0, 0, .inl 0)])
  | 65 => (75, [(65, .iload 8, 2, 8, 0, 0, .inl 0), (67, .iload 6, 2, 6, 0, 0, .inl 0), (69, .if_icmp .ne 6, 3, 75, 0, 0, .inl 0), (72, .goto 26, 3, 98, 0, 0, .inl 0)])
  | 75 => (92, [(75, .iload 8, 2, 8, 0, 0, .inl 0), (77, .istore 6, 2, 6, 0, 0, .inl 0), (79, .iload 5, 2, 5, 0, 0, .inl 0), (81, .aload_n 0, 1, 0, 0, 0, .inl 0), (82, .iload 6, 2, 6, 0, 0, .inl 0), (84, .invokevirtual 54, 3, 11016, 2, 11, .inl 0), (87, .iload_n 1, 1, 1, 0, 0, .inl 0), (88, .iand, 1, 0, 0, 0, .inl 0), (89, .ior, 1, 0, 0, 0, .inl 0), (90, .istore 5, 2, 5, 0, 0, .inl 0)])
  | 92 => (98, [(92, .iinc 7 1, 3, 7, 0, 0, .inl (nI 1)), (95, .goto (-47), 3, 48, 0, 0, .inl 0)])
  | 98 => (108, [(98, .iload 5, 2, 5, 0, 0, .inl 0), (100, .iload 6, 2, 6, 0, 0, .inl 0), (102, .iand, 1, 0, 0, 0, .inl 0), (103, .ifCond .eq 5, 3, 108, 0, 0, .inl 0), (106, .iconst (-1), 1, 0, 0, 0, .inl (-1)), (107, .ireturn, 1, 0, 0, 0, .inl 0)])
  | 108 => (113, [(108, .iload_n 2, 1, 2, 0, 0, .inl 0), (109, .iload 5, 2, 5, 0, 0, .inl 0), (111, .ior, 1, 0, 0, 0, .inl 0), (112, .istore_n 2, 1, 2, 0, 0, .inl 0)])
  | 113 => (118, [(113, .iload_n 3, 1, 3, 0, 0, .inl 0), (114, .iload 6, 2, 6, 0, 0, .inl 0), (116, .ior, 1, 0, 0, 0, .inl 0), (117, .istore_n 3, 1, 3, 0, 0, .inl 0)])
  | 118 => (124, [(118, .iinc 4 1, 3, 4, 0, 0, .inl (nI 1)), (121, .goto (-114), 3, 7, 0, 0, .inl 0)])
  | 124 => (126, [(124, .iload_n 2, 1, 2, 0, 0, .inl 0), (125, .ireturn, 1, 0, 0, 0, .inl 0)])
  | n => (n, [])
theorem ck_11031 : ∀ pc, px_cks pn_i11031 (bk_11031 pc).1 pc (bk_11031 pc).2 = true := by
  intro pc
  unfold bk_11031
  split <;> first | decide +kernel | simp [px_cks]
/-- NoThree$Town.strangeThrees()I -/
def bk_11032 : Nat → Nat × List px_E := fun pc => match pc with
  | 0 => (4, [(0, .iconst 0, 1, 0, 0, 0, .inl (nI 0)), (1, .istore_n 1, 1, 1, 0, 0, .inl 0), (2, .iconst 0, 1, 0, 0, 0, .inl (nI 0)), (3, .istore_n 2, 1, 2, 0, 0, .inl 0)])
  | 4 => (16, [(4, .iload_n 2, 1, 2, 0, 0, .inl 0), (5, .aload_n 0, 1, 0, 0, 0, .inl 0), (6, .getfield 9, 3, 11, 0, 0, .inl 0), (9, .if_icmp .ge 69, 3, 78, 0, 0, .inl 0), (12, .iload_n 2, 1, 2, 0, 0, .inl 0), (13, .iconst 1, 1, 0, 0, 0, .inl (nI 1)), (14, .iadd, 1, 0, 0, 0, .inl 0), (15, .istore_n 3, 1, 3, 0, 0, .inl 0)])
  | 16 => (33, [(16, .iload_n 3, 1, 3, 0, 0, .inl 0), (17, .aload_n 0, 1, 0, 0, 0, .inl 0), (18, .getfield 9, 3, 11, 0, 0, .inl 0), (21, .if_icmp .ge 51, 3, 72, 0, 0, .inl 0), (24, .aload_n 0, 1, 0, 0, 0, .inl 0), (25, .iload_n 2, 1, 2, 0, 0, .inl 0), (26, .iload_n 3, 1, 3, 0, 0, .inl 0), (27, .invokevirtual 61, 3, 11006, 3, 11, .inl 0), (30, .ifCond .ne 36, 3, 66, 0, 0, .inl 0)])
  | 33 => (66, [(33, .iload_n 1, 1, 1, 0, 0, .inl 0), (34, .aload_n 0, 1, 0, 0, 0, .inl 0), (35, .invokevirtual 37, 3, 11004, 1, 11, .inl 0), (38, .aload_n 0, 1, 0, 0, 0, .inl 0), (39, .getfield 15, 3, 11, 1, 2, .inl 0), (42, .iload_n 2, 1, 2, 0, 0, .inl 0), (43, .iaload, 1, 0, 0, 0, .inl 0), (44, .iconst (-1), 1, 0, 0, 0, .inl (-1)), (45, .ixor, 1, 0, 0, 0, .inl 0), (46, .iand, 1, 0, 0, 0, .inl 0), (47, .aload_n 0, 1, 0, 0, 0, .inl 0), (48, .getfield 15, 3, 11, 1, 2, .inl 0), (51, .iload_n 3, 1, 3, 0, 0, .inl 0), (52, .iaload, 1, 0, 0, 0, .inl 0), (53, .iconst (-1), 1, 0, 0, 0, .inl (-1)), (54, .ixor, 1, 0, 0, 0, .inl 0), (55, .iand, 1, 0, 0, 0, .inl 0), (56, .bipush (-2), 2, 0, 0, 0, .inl (-2)), (58, .iload_n 3, 1, 3, 0, 0, .inl 0), (59, .ishl, 1, 0, 0, 0, .inl 0), (60, .iand, 1, 0, 0, 0, .inl 0), (61, .invokestatic 49, 3, 21000, 1, 0, .inl 0), (64, .iadd, 1, 0, 0, 0, .inl 0), (65, .istore_n 1, 1, 1, 0, 0, .inl 0)])
  | 66 => (72, [(66, .iinc 3 1, 3, 3, 0, 0, .inl (nI 1)), (69, .goto (-53), 3, 16, 0, 0, .inl 0)])
  | 72 => (78, [(72, .iinc 2 1, 3, 2, 0, 0, .inl (nI 1)), (75, .goto (-71), 3, 4, 0, 0, .inl 0)])
  | 78 => (80, [(78, .iload_n 1, 1, 1, 0, 0, .inl 0), (79, .ireturn, 1, 0, 0, 0, .inl 0)])
  | n => (n, [])
theorem ck_11032 : ∀ pc, px_cks pn_i11032 (bk_11032 pc).1 pc (bk_11032 pc).2 = true := by
  intro pc
  unfold bk_11032
  split <;> first | decide +kernel | simp [px_cks]
/-- NoThree$Town.calmestSix()I -/
def bk_11033 : Nat → Nat × List px_E := fun pc => match pc with
  | 0 => (6, [(0, .iconst (-1), 1, 0, 0, 0, .inl (-1)), (1, .istore_n 1, 1, 1, 0, 0, .inl 0), (2, .iconst 0, 1, 0, 0, 0, .inl (nI 0)), (3, .istore_n 2, 1, 2, 0, 0, .inl 0), (4, .iconst 0, 1, 0, 0, 0, .inl (nI 0)), (5, .istore_n 3, 1, 3, 0, 0, .inl 0)])
  | 6 => (26, [(6, .iload_n 3, 1, 3, 0, 0, .inl 0), (7, .aload_n 0, 1, 0, 0, 0, .inl 0), (8, .invokevirtual 37, 3, 11004, 1, 11, .inl 0), (11, .if_icmp .gt 44, 3, 55, 0, 0, .inl 0), (14, .iload_n 3, 1, 3, 0, 0, .inl 0), (15, .invokestatic 49, 3, 21000, 1, 0, .inl 0), (18, .bipush 6, 2, 0, 0, 0, .inl (nI 6)), (20, .if_icmp .eq 6, 3, 26, 0, 0, .inl 0), (23, .goto 26, 3, 49, 0, 0, .inl 0)])
  | 26 => (44, [(26, .aload_n 0, 1, 0, 0, 0, .inl 0), (27, .iload_n 3, 1, 3, 0, 0, .inl 0), (28, .invokevirtual 73, 3, 11034, 2, 11, .inl 0), (31, .istore 4, 2, 4, 0, 0, .inl 0), (33, .iload_n 1, 1, 1, 0, 0, .inl 0), (34, .iconst (-1), 1, 0, 0, 0, .inl (-1)), (35, .if_icmp .eq 9, 3, 44, 0, 0, .inl 0), (38, .iload 4, 2, 4, 0, 0, .inl 0), (40, .iload_n 2, 1, 2, 0, 0, .inl 0), (41, .if_icmp .ge 8, 3, 49, 0, 0, .inl 0)])
  | 44 => (49, [(44, .iload_n 3, 1, 3, 0, 0, .inl 0), (45, .istore_n 1, 1, 1, 0, 0, .inl 0), (46, .iload 4, 2, 4, 0, 0, .inl 0), (48, .istore_n 2, 1, 2, 0, 0, .inl 0)])
  | 49 => (55, [(49, .iinc 3 1, 3, 3, 0, 0, .inl (nI 1)), (52, .goto (-46), 3, 6, 0, 0, .inl 0)])
  | 55 => (57, [(55, .iload_n 1, 1, 1, 0, 0, .inl 0), (56, .ireturn, 1, 0, 0, 0, .inl 0)])
  | n => (n, [])
theorem ck_11033 : ∀ pc, px_cks pn_i11033 (bk_11033 pc).1 pc (bk_11033 pc).2 = true := by
  intro pc
  unfold bk_11033
  split <;> first | decide +kernel | simp [px_cks]
/-- NoThree$Town.meetingsInSix(I)I -/
def bk_11034 : Nat → Nat × List px_E := fun pc => match pc with
  | 0 => (4, [(0, .iconst 0, 1, 0, 0, 0, .inl (nI 0)), (1, .istore_n 2, 1, 2, 0, 0, .inl 0), (2, .iconst 0, 1, 0, 0, 0, .inl (nI 0)), (3, .istore_n 3, 1, 3, 0, 0, .inl 0)])
  | 4 => (43, [(4, .iload_n 3, 1, 3, 0, 0, .inl 0), (5, .aload_n 0, 1, 0, 0, 0, .inl 0), (6, .getfield 9, 3, 11, 0, 0, .inl 0), (9, .if_icmp .ge 40, 3, 49, 0, 0, .inl 0), (12, .iload_n 1, 1, 1, 0, 0, .inl 0), (13, .iconst 1, 1, 0, 0, 0, .inl (nI 1)), (14, .iload_n 3, 1, 3, 0, 0, .inl 0), (15, .ishl, 1, 0, 0, 0, .inl 0), (16, .iand, 1, 0, 0, 0, .inl 0), (17, .ifCond .eq 26, 3, 43, 0, 0, .inl 0), (20, .aload_n 0, 1, 0, 0, 0, .inl 0), (21, .getfield 15, 3, 11, 1, 2, .inl 0), (24, .iload_n 3, 1, 3, 0, 0, .inl 0), (25, .iaload, 1, 0, 0, 0, .inl 0), (26, .iload_n 1, 1, 1, 0, 0, .inl 0), (27, .iand, 1, 0, 0, 0, .inl 0), (28, .invokestatic 49, 3, 21000, 1, 0, .inl 0), (31, .istore 4, 2, 4, 0, 0, .inl 0), (33, .iload_n 2, 1, 2, 0, 0, .inl 0), (34, .iload 4, 2, 4, 0, 0, .inl 0), (36, .iconst 5, 1, 0, 0, 0, .inl (nI 5)), (37, .iload 4, 2, 4, 0, 0, .inl 0), (39, .isub, 1, 0, 0, 0, .inl 0), (40, .imul, 1, 0, 0, 0, .inl 0), (41, .iadd, 1, 0, 0, 0, .inl 0), (42, .istore_n 2, 1, 2, 0, 0, .inl 0)])
  | 43 => (49, [(43, .iinc 3 1, 3, 3, 0, 0, .inl (nI 1)), (46, .goto (-42), 3, 4, 0, 0, .inl 0)])
  | 49 => (56, [(49, .bipush 20, 2, 0, 0, 0, .inl (nI 20)), (51, .iload_n 2, 1, 2, 0, 0, .inl 0), (52, .iconst 2, 1, 0, 0, 0, .inl (nI 2)), (53, .idiv, 1, 0, 0, 0, .inl 0), (54, .isub, 1, 0, 0, 0, .inl 0), (55, .ireturn, 1, 0, 0, 0, .inl 0)])
  | n => (n, [])
theorem ck_11034 : ∀ pc, px_cks pn_i11034 (bk_11034 pc).1 pc (bk_11034 pc).2 = true := by
  intro pc
  unfold bk_11034
  split <;> first | decide +kernel | simp [px_cks]
/-- NoThree.feed(IIIII)I -/
def bk_12002 : Nat → Nat × List px_E := fun pc => match pc with
  | 0 => (15, [(0, .aload_n 0, 1, 0, 0, 0, .inl 0), (1, .getfield 29, 3, 12, 4, 2, .inl 0), (4, .bipush 20, 2, 0, 0, 0, .inl (nI 20)), (6, .invokevirtual 100, 3, 9002, 2, 9, .inl 0), (9, .ifCond .ne 6, 3, 15, 0, 0, .inl 0), (12, .bipush (-5), 2, 0, 0, 0, .inl (-5)), (14, .ireturn, 1, 0, 0, 0, .inl 0)])
  | 15 => (31, [(15, .aload_n 0, 1, 0, 0, 0, .inl 0), (16, .getfield 29, 3, 12, 4, 2, .inl 0), (19, .iload_n 1, 1, 1, 0, 0, .inl 0), (20, .invokevirtual 104, 3, 9003, 2, 9, .inl 0), (23, .aload_n 0, 1, 0, 0, 0, .inl 0), (24, .getfield 29, 3, 12, 4, 2, .inl 0), (27, .iload_n 2, 1, 2, 0, 0, .inl 0), (28, .invokevirtual 104, 3, 9003, 2, 9, .inl 0)])
  | 31 => (57, [(31, .aload_n 0, 1, 0, 0, 0, .inl 0), (32, .getfield 29, 3, 12, 4, 2, .inl 0), (35, .iload_n 3, 1, 3, 0, 0, .inl 0), (36, .invokevirtual 104, 3, 9003, 2, 9, .inl 0), (39, .aload_n 0, 1, 0, 0, 0, .inl 0), (40, .getfield 29, 3, 12, 4, 2, .inl 0), (43, .iload 4, 2, 4, 0, 0, .inl 0), (45, .invokevirtual 104, 3, 9003, 2, 9, .inl 0), (48, .aload_n 0, 1, 0, 0, 0, .inl 0), (49, .getfield 29, 3, 12, 4, 2, .inl 0), (52, .iload 5, 2, 5, 0, 0, .inl 0), (54, .invokevirtual 104, 3, 9003, 2, 9, .inl 0)])
  | 57 => (65, [(57, .aload_n 0, 1, 0, 0, 0, .inl 0), (58, .getfield 29, 3, 12, 4, 2, .inl 0), (61, .getfield 108, 3, 9, 0, 0, .inl 0), (64, .ireturn, 1, 0, 0, 0, .inl 0)])
  | n => (n, [])
theorem ck_12002 : ∀ pc, px_cks pn_i12002 (bk_12002 pc).1 pc (bk_12002 pc).2 = true := by
  intro pc
  unfold bk_12002
  split <;> first | decide +kernel | simp [px_cks]
/-- NoThree.town(I)I -/
def bk_12003 : Nat → Nat × List px_E := fun pc => match pc with
  | 0 => (15, [(0, .iload_n 1, 1, 1, 0, 0, .inl 0), (1, .ifCond .lt 14, 3, 15, 0, 0, .inl 0), (4, .iload_n 1, 1, 1, 0, 0, .inl 0), (5, .aload_n 0, 1, 0, 0, 0, .inl 0), (6, .getfield 29, 3, 12, 4, 2, .inl 0), (9, .getfield 108, 3, 9, 0, 0, .inl 0), (12, .if_icmp .le 6, 3, 18, 0, 0, .inl 0)])
  | 15 => (18, [(15, .bipush (-3), 2, 0, 0, 0, .inl (-3)), (17, .ireturn, 1, 0, 0, 0, .inl 0)])
  | 18 => (47, [(18, .aload_n 0, 1, 0, 0, 0, .inl 0), (19, .getfield 29, 3, 12, 4, 2, .inl 0), (22, .iload_n 1, 1, 1, 0, 0, .inl 0), (23, .invokevirtual 112, 3, 9004, 2, 9, .inl 0), (26, .aload_n 0, 1, 0, 0, 0, .inl 0), (27, .getfield 29, 3, 12, 4, 2, .inl 0), (30, .getfield 115, 3, 9, 1, 0, .inl 0), (33, .ifCond .eq 14, 3, 47, 0, 0, .inl 0), (36, .bipush (-30), 2, 0, 0, 0, .inl (-30)), (38, .aload_n 0, 1, 0, 0, 0, .inl 0), (39, .getfield 29, 3, 12, 4, 2, .inl 0), (42, .getfield 115, 3, 9, 1, 0, .inl 0), (45, .isub, 1, 0, 0, 0, .inl 0), (46, .ireturn, 1, 0, 0, 0, .inl 0)])
  | 47 => (61, [(47, .aload_n 0, 1, 0, 0, 0, .inl 0), (48, .getfield 12, 3, 12, 0, 2, .inl 0), (51, .aload_n 0, 1, 0, 0, 0, .inl 0), (52, .getfield 29, 3, 12, 4, 2, .inl 0), (55, .getfield 118, 3, 9, 3, 2, .inl 0), (58, .invokevirtual 121, 3, 1002, 2, 1, .inl 0)])
  | 61 => (69, [(61, .aload_n 0, 1, 0, 0, 0, .inl 0), (62, .getfield 12, 3, 12, 0, 2, .inl 0), (65, .getfield 125, 3, 1, 2, 0, .inl 0), (68, .ireturn, 1, 0, 0, 0, .inl 0)])
  | n => (n, [])
theorem ck_12003 : ∀ pc, px_cks pn_i12003 (bk_12003 pc).1 pc (bk_12003 pc).2 = true := by
  intro pc
  unfold bk_12003
  split <;> first | decide +kernel | simp [px_cks]
