/-- java/lang/String.coder()B -/
def bk_23001 : Nat → Nat × List px_E := fun pc => match pc with
  | 0 => (13, [(0, .getstatic 38, 3, 0, 0, 0, .inl (nI 1)), (3, .ifCond .eq 10, 3, 13, 0, 0, .inl 0), (6, .aload_n 0, 1, 0, 0, 0, .inl 0), (7, .getfield 15, 3, 23, 1, 0, .inl 0), (10, .goto 4, 3, 14, 0, 0, .inl 0)])
  | 13 => (14, [(13, .iconst 1, 1, 0, 0, 0, .inl (nI 1))])
  | 14 => (15, [(14, .ireturn, 1, 0, 0, 0, .inl 0)])
  | n => (n, [])
theorem ck_23001 : ∀ pc, px_cks pn_i23001 (bk_23001 pc).1 pc (bk_23001 pc).2 = true := by
  intro pc
  unfold bk_23001
  split <;> first | decide +kernel | simp [px_cks]
/-- java/lang/String.charAt(I)C; not walked: 21 -/
def bk_23002 : Nat → Nat × List px_E := fun pc => match pc with
  | 0 => (16, [(0, .aload_n 0, 1, 0, 0, 0, .inl 0), (1, .invokevirtual 492, 3, 23003, 1, 23, .inl 0), (4, .ifCond .eq 12, 3, 16, 0, 0, .inl 0), (7, .aload_n 0, 1, 0, 0, 0, .inl 0), (8, .getfield 9, 3, 23, 0, 2, .inl 0), (11, .iload_n 1, 1, 1, 0, 0, .inl 0), (12, .invokestatic 495, 3, 24000, 2, 0, .inl 0), (15, .ireturn, 1, 0, 0, 0, .inl 0)])
  | 16 => (21, [(16, .aload_n 0, 1, 0, 0, 0, .inl 0), (17, .getfield 9, 3, 23, 0, 2, .inl 0), (20, .iload_n 1, 1, 1, 0, 0, .inl 0)])
  | 24 => (25, [(24, .ireturn, 1, 0, 0, 0, .inl 0)])
  | n => (n, [])
theorem ck_23002 : ∀ pc, px_cks pn_i23002 (bk_23002 pc).1 pc (bk_23002 pc).2 = true := by
  intro pc
  unfold bk_23002
  split <;> first | decide +kernel | simp [px_cks]
/-- java/lang/String.isLatin1()Z -/
def bk_23003 : Nat → Nat × List px_E := fun pc => match pc with
  | 0 => (17, [(0, .getstatic 38, 3, 0, 0, 0, .inl (nI 1)), (3, .ifCond .eq 14, 3, 17, 0, 0, .inl 0), (6, .aload_n 0, 1, 0, 0, 0, .inl 0), (7, .getfield 15, 3, 23, 1, 0, .inl 0), (10, .ifCond .ne 7, 3, 17, 0, 0, .inl 0), (13, .iconst 1, 1, 0, 0, 0, .inl (nI 1)), (14, .goto 4, 3, 18, 0, 0, .inl 0)])
  | 17 => (18, [(17, .iconst 0, 1, 0, 0, 0, .inl (nI 0))])
  | 18 => (19, [(18, .ireturn, 1, 0, 0, 0, .inl 0)])
  | n => (n, [])
theorem ck_23003 : ∀ pc, px_cks pn_i23003 (bk_23003 pc).1 pc (bk_23003 pc).2 = true := by
  intro pc
  unfold bk_23003
  split <;> first | decide +kernel | simp [px_cks]
/-- java/lang/String.checkIndex(II)V -/
def bk_23004 : Nat → Nat × List px_E := fun pc => match pc with
  | 0 => (10, [(0, .iload_n 0, 1, 0, 0, 0, .inl 0), (1, .iload_n 1, 1, 1, 0, 0, .inl 0), (2, .getstatic 1053, 3, 0, 0, 1, .inl 0), (5, .invokestatic 1059, 3, 25000, 3, 0, .inl 0), (8, .pop, 1, 0, 0, 0, .inl 0), (9, .return_, 1, 0, 0, 0, .inl 0)])
  | n => (n, [])
theorem ck_23004 : ∀ pc, px_cks pn_i23004 (bk_23004 pc).1 pc (bk_23004 pc).2 = true := by
  intro pc
  unfold bk_23004
  split <;> first | decide +kernel | simp [px_cks]
/-- java/lang/String.indexOf(I)I -/
def bk_23005 : Nat → Nat × List px_E := fun pc => match pc with
  | 0 => (7, [(0, .aload_n 0, 1, 0, 0, 0, .inl 0), (1, .iload_n 1, 1, 1, 0, 0, .inl 0), (2, .iconst 0, 1, 0, 0, 0, .inl (nI 0)), (3, .invokevirtual 633, 3, 23006, 3, 23, .inl 0), (6, .ireturn, 1, 0, 0, 0, .inl 0)])
  | n => (n, [])
theorem ck_23005 : ∀ pc, px_cks pn_i23005 (bk_23005 pc).1 pc (bk_23005 pc).2 = true := by
  intro pc
  unfold bk_23005
  split <;> first | decide +kernel | simp [px_cks]
/-- java/lang/String.indexOf(II)I; not walked: 33 -/
def bk_23006 : Nat → Nat × List px_E := fun pc => match pc with
  | 0 => (23, [(0, .aload_n 0, 1, 0, 0, 0, .inl 0), (1, .invokevirtual 492, 3, 23003, 1, 23, .inl 0), (4, .ifCond .eq 19, 3, 23, 0, 0, .inl 0), (7, .aload_n 0, 1, 0, 0, 0, .inl 0), (8, .getfield 9, 3, 23, 0, 2, .inl 0), (11, .iload_n 1, 1, 1, 0, 0, .inl 0), (12, .iload_n 2, 1, 2, 0, 0, .inl 0), (13, .aload_n 0, 1, 0, 0, 0, .inl 0), (14, .invokevirtual 505, 3, 23000, 1, 23, .inl 0), (17, .invokestatic 637, 3, 24001, 4, 0, .inl 0), (20, .goto 16, 3, 36, 0, 0, .inl 0)])
  | 23 => (33, [(23, .aload_n 0, 1, 0, 0, 0, .inl 0), (24, .getfield 9, 3, 23, 0, 2, .inl 0), (27, .iload_n 1, 1, 1, 0, 0, .inl 0), (28, .iload_n 2, 1, 2, 0, 0, .inl 0), (29, .aload_n 0, 1, 0, 0, 0, .inl 0), (30, .invokevirtual 505, 3, 23000, 1, 23, .inl 0)])
  | 36 => (37, [(36, .ireturn, 1, 0, 0, 0, .inl 0)])
  | n => (n, [])
theorem ck_23006 : ∀ pc, px_cks pn_i23006 (bk_23006 pc).1 pc (bk_23006 pc).2 = true := by
  intro pc
  unfold bk_23006
  split <;> first | decide +kernel | simp [px_cks]
/-- java/lang/StringLatin1.charAt([BI)C -/
def bk_24000 : Nat → Nat × List px_E := fun pc => match pc with
  | 0 => (15, [(0, .iload_n 1, 1, 1, 0, 0, .inl 0), (1, .aload_n 0, 1, 0, 0, 0, .inl 0), (2, .arraylength, 1, 0, 0, 0, .inl 0), (3, .invokestatic 9, 3, 23004, 2, 0, .inl 0), (6, .aload_n 0, 1, 0, 0, 0, .inl 0), (7, .iload_n 1, 1, 1, 0, 0, .inl 0), (8, .baload, 1, 0, 0, 0, .inl 0), (9, .sipush 255, 3, 0, 0, 0, .inl (nI 255)), (12, .iand, 1, 0, 0, 0, .inl 0), (13, .i2c, 1, 0, 0, 0, .inl 0), (14, .ireturn, 1, 0, 0, 0, .inl 0)])
  | n => (n, [])
theorem ck_24000 : ∀ pc, px_cks pn_i24000 (bk_24000 pc).1 pc (bk_24000 pc).2 = true := by
  intro pc
  unfold bk_24000
  split <;> first | decide +kernel | simp [px_cks]
/-- java/lang/StringLatin1.indexOf([BIII)I -/
def bk_24001 : Nat → Nat × List px_E := fun pc => match pc with
  | 0 => (9, [(0, .iload_n 1, 1, 1, 0, 0, .inl 0), (1, .invokestatic 88, 3, 24002, 1, 0, .inl 0), (4, .ifCond .ne 5, 3, 9, 0, 0, .inl 0), (7, .iconst (-1), 1, 0, 0, 0, .inl (-1)), (8, .ireturn, 1, 0, 0, 0, .inl 0)])
  | 9 => (22, [(9, .iload_n 2, 1, 2, 0, 0, .inl 0), (10, .iconst 0, 1, 0, 0, 0, .inl (nI 0)), (11, .invokestatic 92, 3, 20000, 2, 1, .inl 0), (14, .istore_n 2, 1, 2, 0, 0, .inl 0), (15, .iload_n 3, 1, 3, 0, 0, .inl 0), (16, .aload_n 0, 1, 0, 0, 0, .inl 0), (17, .arraylength, 1, 0, 0, 0, .inl 0), (18, .invokestatic 38, 3, 20001, 2, 2, .inl 0), (21, .istore_n 3, 1, 3, 0, 0, .inl 0)])
  | 22 => (29, [(22, .iload_n 2, 1, 2, 0, 0, .inl 0), (23, .iload_n 3, 1, 3, 0, 0, .inl 0), (24, .if_icmp .lt 5, 3, 29, 0, 0, .inl 0), (27, .iconst (-1), 1, 0, 0, 0, .inl (-1)), (28, .ireturn, 1, 0, 0, 0, .inl 0)])
  | 29 => (37, [(29, .aload_n 0, 1, 0, 0, 0, .inl 0), (30, .iload_n 1, 1, 1, 0, 0, .inl 0), (31, .iload_n 2, 1, 2, 0, 0, .inl 0), (32, .iload_n 3, 1, 3, 0, 0, .inl 0), (33, .invokestatic 95, 3, 24003, 4, 0, .inl 0), (36, .ireturn, 1, 0, 0, 0, .inl 0)])
  | n => (n, [])
theorem ck_24001 : ∀ pc, px_cks pn_i24001 (bk_24001 pc).1 pc (bk_24001 pc).2 = true := by
  intro pc
  unfold bk_24001
  split <;> first | decide +kernel | simp [px_cks]
/-- java/lang/StringLatin1.canEncode(I)Z -/
def bk_24002 : Nat → Nat × List px_E := fun pc => match pc with
  | 0 => (15, [(0, .iload_n 0, 1, 0, 0, 0, .inl 0), (1, .ifCond .lt 14, 3, 15, 0, 0, .inl 0), (4, .iload_n 0, 1, 0, 0, 0, .inl 0), (5, .sipush 255, 3, 0, 0, 0, .inl (nI 255)), (8, .if_icmp .gt 7, 3, 15, 0, 0, .inl 0), (11, .iconst 1, 1, 0, 0, 0, .inl (nI 1)), (12, .goto 4, 3, 16, 0, 0, .inl 0)])
  | 15 => (16, [(15, .iconst 0, 1, 0, 0, 0, .inl (nI 0))])
  | 16 => (17, [(16, .ireturn, 1, 0, 0, 0, .inl 0)])
  | n => (n, [])
theorem ck_24002 : ∀ pc, px_cks pn_i24002 (bk_24002 pc).1 pc (bk_24002 pc).2 = true := by
  intro pc
  unfold bk_24002
  split <;> first | decide +kernel | simp [px_cks]
/-- java/lang/StringLatin1.indexOfChar([BIII)I -/
def bk_24003 : Nat → Nat × List px_E := fun pc => match pc with
  | 0 => (7, [(0, .iload_n 1, 1, 1, 0, 0, .inl 0), (1, .i2b, 1, 0, 0, 0, .inl 0), (2, .istore 4, 2, 4, 0, 0, .inl 0), (4, .iload_n 2, 1, 2, 0, 0, .inl 0), (5, .istore 5, 2, 5, 0, 0, .inl 0)])
  | 7 => (25, [(7, .iload 5, 2, 5, 0, 0, .inl 0), (9, .iload_n 3, 1, 3, 0, 0, .inl 0), (10, .if_icmp .ge 21, 3, 31, 0, 0, .inl 0), (13, .aload_n 0, 1, 0, 0, 0, .inl 0), (14, .iload 5, 2, 5, 0, 0, .inl 0), (16, .baload, 1, 0, 0, 0, .inl 0), (17, .iload 4, 2, 4, 0, 0, .inl 0), (19, .if_icmp .ne 6, 3, 25, 0, 0, .inl 0), (22, .iload 5, 2, 5, 0, 0, .inl 0), (24, .ireturn, 1, 0, 0, 0, .inl 0)])
  | 25 => (31, [(25, .iinc 5 1, 3, 5, 0, 0, .inl (nI 1)), (28, .goto (-21), 3, 7, 0, 0, .inl 0)])
  | 31 => (33, [(31, .iconst (-1), 1, 0, 0, 0, .inl (-1)), (32, .ireturn, 1, 0, 0, 0, .inl 0)])
  | n => (n, [])
theorem ck_24003 : ∀ pc, px_cks pn_i24003 (bk_24003 pc).1 pc (bk_24003 pc).2 = true := by
  intro pc
  unfold bk_24003
  split <;> first | decide +kernel | simp [px_cks]
/-- jdk/internal/util/Preconditions.checkIndex(IILjava/util/function/BiFunction;)I; not walked: 12 -/
def bk_25000 : Nat → Nat × List px_E := fun pc => match pc with
  | 0 => (9, [(0, .iload_n 0, 1, 0, 0, 0, .inl 0), (1, .ifCond .lt 8, 3, 9, 0, 0, .inl 0), (4, .iload_n 0, 1, 0, 0, 0, .inl 0), (5, .iload_n 1, 1, 1, 0, 0, .inl 0), (6, .if_icmp .lt 10, 3, 16, 0, 0, .inl 0)])
  | 9 => (12, [(9, .aload_n 2, 1, 2, 0, 0, .inl 0), (10, .iload_n 0, 1, 0, 0, 0, .inl 0), (11, .iload_n 1, 1, 1, 0, 0, .inl 0)])
  | 15 => (16, [(15, .athrow, 1, 0, 0, 0, .inl 0)])
  | 16 => (18, [(16, .iload_n 0, 1, 0, 0, 0, .inl 0), (17, .ireturn, 1, 0, 0, 0, .inl 0)])
  | n => (n, [])
theorem ck_25000 : ∀ pc, px_cks pn_i25000 (bk_25000 pc).1 pc (bk_25000 pc).2 = true := by
  intro pc
  unfold bk_25000
  split <;> first | decide +kernel | simp [px_cks]
