/-- java/lang/Integer.bitCount(I)I -/
def bk_21000 : Nat → Nat × List px_E := fun pc => match pc with
  | 0 => (53, [(0, .iload_n 0, 1, 0, 0, 0, .inl 0), (1, .iload_n 0, 1, 0, 0, 0, .inl 0), (2, .iconst 1, 1, 0, 0, 0, .inl (nI 1)), (3, .iushr, 1, 0, 0, 0, .inl 0), (4, .ldc_w 265, 3, 0, 0, 0, .inl (nI 1431655765)), (7, .iand, 1, 0, 0, 0, .inl 0), (8, .isub, 1, 0, 0, 0, .inl 0), (9, .istore_n 0, 1, 0, 0, 0, .inl 0), (10, .iload_n 0, 1, 0, 0, 0, .inl 0), (11, .ldc_w 266, 3, 0, 0, 0, .inl (nI 858993459)), (14, .iand, 1, 0, 0, 0, .inl 0), (15, .iload_n 0, 1, 0, 0, 0, .inl 0), (16, .iconst 2, 1, 0, 0, 0, .inl (nI 2)), (17, .iushr, 1, 0, 0, 0, .inl 0), (18, .ldc_w 266, 3, 0, 0, 0, .inl (nI 858993459)), (21, .iand, 1, 0, 0, 0, .inl 0), (22, .iadd, 1, 0, 0, 0, .inl 0), (23, .istore_n 0, 1, 0, 0, 0, .inl 0), (24, .iload_n 0, 1, 0, 0, 0, .inl 0), (25, .iload_n 0, 1, 0, 0, 0, .inl 0), (26, .iconst 4, 1, 0, 0, 0, .inl (nI 4)), (27, .iushr, 1, 0, 0, 0, .inl 0), (28, .iadd, 1, 0, 0, 0, .inl 0), (29, .ldc_w 267, 3, 0, 0, 0, .inl (nI 252645135)), (32, .iand, 1, 0, 0, 0, .inl 0), (33, .istore_n 0, 1, 0, 0, 0, .inl 0), (34, .iload_n 0, 1, 0, 0, 0, .inl 0), (35, .iload_n 0, 1, 0, 0, 0, .inl 0), (36, .bipush 8, 2, 0, 0, 0, .inl (nI 8)), (38, .iushr, 1, 0, 0, 0, .inl 0), (39, .iadd, 1, 0, 0, 0, .inl 0), (40, .istore_n 0, 1, 0, 0, 0, .inl 0), (41, .iload_n 0, 1, 0, 0, 0, .inl 0), (42, .iload_n 0, 1, 0, 0, 0, .inl 0), (43, .bipush 16, 2, 0, 0, 0, .inl (nI 16)), (45, .iushr, 1, 0, 0, 0, .inl 0), (46, .iadd, 1, 0, 0, 0, .inl 0), (47, .istore_n 0, 1, 0, 0, 0, .inl 0), (48, .iload_n 0, 1, 0, 0, 0, .inl 0), (49, .bipush 63, 2, 0, 0, 0, .inl (nI 63)), (51, .iand, 1, 0, 0, 0, .inl 0), (52, .ireturn, 1, 0, 0, 0, .inl 0)])
  | n => (n, [])
theorem ck_21000 : ∀ pc, px_cks pn_i21000 (bk_21000 pc).1 pc (bk_21000 pc).2 = true := by
  intro pc
  unfold bk_21000
  split <;> first | decide +kernel | simp [px_cks]
/-- java/util/Arrays.fill([II)V -/
def bk_22000 : Nat → Nat × List px_E := fun pc => match pc with
  | 0 => (5, [(0, .iconst 0, 1, 0, 0, 0, .inl (nI 0)), (1, .istore_n 2, 1, 2, 0, 0, .inl 0), (2, .aload_n 0, 1, 0, 0, 0, .inl 0), (3, .arraylength, 1, 0, 0, 0, .inl 0), (4, .istore_n 3, 1, 3, 0, 0, .inl 0)])
  | 5 => (20, [(5, .iload_n 2, 1, 2, 0, 0, .inl 0), (6, .iload_n 3, 1, 3, 0, 0, .inl 0), (7, .if_icmp .ge 13, 3, 20, 0, 0, .inl 0), (10, .aload_n 0, 1, 0, 0, 0, .inl 0), (11, .iload_n 2, 1, 2, 0, 0, .inl 0), (12, .iload_n 1, 1, 1, 0, 0, .inl 0), (13, .iastore, 1, 0, 0, 0, .inl 0), (14, .iinc 2 1, 3, 2, 0, 0, .inl (nI 1)), (17, .goto (-12), 3, 5, 0, 0, .inl 0)])
  | 20 => (21, [(20, .return_, 1, 0, 0, 0, .inl 0)])
  | n => (n, [])
theorem ck_22000 : ∀ pc, px_cks pn_i22000 (bk_22000 pc).1 pc (bk_22000 pc).2 = true := by
  intro pc
  unfold bk_22000
  split <;> first | decide +kernel | simp [px_cks]
