/-! the table of all cells -/
def tT0 : px_T := [(0, .inl 0), (1, .inr (0, 3216)), (2, .inr (2, 2)), (3, .inr (0, 900)), (4, .inr (0, 1072)), (15, .inr (0, 11)), (16, .inr (0, 11)), (17, .inr (0, 900)), (18, .inr (0, 12)), (19, .inr (0, 11)), (20, .inr (0, 12)), (23, .inr (3, 2048)), (24, .inr (3, 2048)), (25, .inr (2, 2048)), (26, .inr (2, 2048)), (27, .inr (0, 11)), (28, .inr (0, 11)), (31, .inr (0, 6)), (35, .inr (0, 4)), (36, .inr (0, 4)), (37, .inr (3, 160)), (100, .inl 12), (102, .inr (2, 2)), (103, .inr (3, 160)), (104, .inr (0, 4)), (105, .inr (0, 4)), (110, .inl 1), (111, .inl 11), (112, .inr (0, 11)), (113, .inl 10), (114, .inr (0, 7)), (115, .inr (0, 6)), (116, .inr (0, 900)), (117, .inr (0, 144)), (120, .inl 1), (121, .inl 11), (122, .inr (0, 11)), (123, .inl 10), (124, .inr (0, 7)), (125, .inr (0, 6)), (126, .inr (0, 900)), (127, .inr (0, 144)), (130, .inl 1), (131, .inl 11), (132, .inr (0, 11)), (133, .inl 10), (134, .inr (0, 7)), (135, .inr (0, 6)), (136, .inr (0, 900)), (137, .inr (0, 144)), (140, .inl 1), (141, .inl 11), (142, .inr (0, 11)), (143, .inl 10), (144, .inr (0, 7)), (145, .inr (0, 6)), (146, .inr (0, 900)), (147, .inr (0, 144)), (150, .inl 9), (151, .inr (1, 900)), (152, .inr (0, 901)), (153, .inr (0, 901)), (160, .inl 3), (161, .inr (0, 2048)), (170, .inl 8), (171, .inr (0, 11)), (172, .inr (0, 132)), (173, .inl 11), (174, .inr (0, 11)), (180, .inl 4), (181, .inl 3), (182, .inr (0, 2048)), (183, .inr (0, 2048)), (184, .inr (0, 11)), (185, .inl 11), (186, .inr (0, 11)), (190, .inl 6), (191, .inr (0, 11)), (192, .inl 11), (193, .inr (0, 11)), (194, .inl 11), (195, .inr (0, 11)), (200, .inl 5), (201, .inl 11), (202, .inr (0, 11)), (210, .inl 2), (211, .inl 8), (212, .inr (0, 11)), (213, .inr (0, 132)), (214, .inl 11), (215, .inr (0, 11)), (216, .inl 11), (217, .inr (0, 11)), (218, .inr (0, 64)), (219, .inr (0, 6)), (220, .inr (0, 99)), (221, .inl 10), (222, .inr (0, 7)), (223, .inr (0, 6)), (224, .inr (0, 900)), (225, .inl 11), (226, .inr (0, 11)), (230, .inl 7), (231, .inl 11), (232, .inr (0, 11)), (233, .inl 11), (234, .inr (0, 11)), (240, .inl 11), (241, .inr (0, 11))]
def tT : px_T := tT0 ++ pn_xt
theorem tT_nd : px_nd tT := by
  have h1 : (tT.map Prod.fst).Nodup := by decide +kernel
  have h0 : ∀ q ∈ tT0, px_xb q.2 = false := by decide +kernel
  have h2 : ∀ q ∈ tT, px_xb q.2 = true → q ∈ pn_xt := fun q hq hx => by
    rcases List.mem_append.mp hq with h | h
    · rw [h0 q h] at hx; cases hx
    · exact h
  exact ⟨h1, h2⟩
theorem la_0 : px_lay tT 0 = some (.inl 0) := by decide +kernel
theorem la_1 : px_lay tT 1 = some (.inr (0, 3216)) := by decide +kernel
theorem la_2 : px_lay tT 2 = some (.inr (2, 2)) := by decide +kernel
theorem la_3 : px_lay tT 3 = some (.inr (0, 900)) := by decide +kernel
theorem la_4 : px_lay tT 4 = some (.inr (0, 1072)) := by decide +kernel
theorem la_15 : px_lay tT 15 = some (.inr (0, 11)) := by decide +kernel
theorem la_16 : px_lay tT 16 = some (.inr (0, 11)) := by decide +kernel
theorem la_17 : px_lay tT 17 = some (.inr (0, 900)) := by decide +kernel
theorem la_18 : px_lay tT 18 = some (.inr (0, 12)) := by decide +kernel
theorem la_19 : px_lay tT 19 = some (.inr (0, 11)) := by decide +kernel
theorem la_20 : px_lay tT 20 = some (.inr (0, 12)) := by decide +kernel
theorem la_23 : px_lay tT 23 = some (.inr (3, 2048)) := by decide +kernel
theorem la_24 : px_lay tT 24 = some (.inr (3, 2048)) := by decide +kernel
theorem la_25 : px_lay tT 25 = some (.inr (2, 2048)) := by decide +kernel
theorem la_26 : px_lay tT 26 = some (.inr (2, 2048)) := by decide +kernel
theorem la_27 : px_lay tT 27 = some (.inr (0, 11)) := by decide +kernel
theorem la_28 : px_lay tT 28 = some (.inr (0, 11)) := by decide +kernel
theorem la_31 : px_lay tT 31 = some (.inr (0, 6)) := by decide +kernel
theorem la_35 : px_lay tT 35 = some (.inr (0, 4)) := by decide +kernel
theorem la_36 : px_lay tT 36 = some (.inr (0, 4)) := by decide +kernel
theorem la_37 : px_lay tT 37 = some (.inr (3, 160)) := by decide +kernel
theorem la_100 : px_lay tT 100 = some (.inl 12) := by decide +kernel
theorem la_102 : px_lay tT 102 = some (.inr (2, 2)) := by decide +kernel
theorem la_103 : px_lay tT 103 = some (.inr (3, 160)) := by decide +kernel
theorem la_104 : px_lay tT 104 = some (.inr (0, 4)) := by decide +kernel
theorem la_105 : px_lay tT 105 = some (.inr (0, 4)) := by decide +kernel
theorem la_110 : px_lay tT 110 = some (.inl 1) := by decide +kernel
theorem la_111 : px_lay tT 111 = some (.inl 11) := by decide +kernel
theorem la_112 : px_lay tT 112 = some (.inr (0, 11)) := by decide +kernel
theorem la_113 : px_lay tT 113 = some (.inl 10) := by decide +kernel
theorem la_114 : px_lay tT 114 = some (.inr (0, 7)) := by decide +kernel
theorem la_115 : px_lay tT 115 = some (.inr (0, 6)) := by decide +kernel
theorem la_116 : px_lay tT 116 = some (.inr (0, 900)) := by decide +kernel
theorem la_117 : px_lay tT 117 = some (.inr (0, 144)) := by decide +kernel
theorem la_120 : px_lay tT 120 = some (.inl 1) := by decide +kernel
theorem la_121 : px_lay tT 121 = some (.inl 11) := by decide +kernel
theorem la_122 : px_lay tT 122 = some (.inr (0, 11)) := by decide +kernel
theorem la_123 : px_lay tT 123 = some (.inl 10) := by decide +kernel
theorem la_124 : px_lay tT 124 = some (.inr (0, 7)) := by decide +kernel
theorem la_125 : px_lay tT 125 = some (.inr (0, 6)) := by decide +kernel
theorem la_126 : px_lay tT 126 = some (.inr (0, 900)) := by decide +kernel
theorem la_127 : px_lay tT 127 = some (.inr (0, 144)) := by decide +kernel
theorem la_130 : px_lay tT 130 = some (.inl 1) := by decide +kernel
theorem la_131 : px_lay tT 131 = some (.inl 11) := by decide +kernel
theorem la_132 : px_lay tT 132 = some (.inr (0, 11)) := by decide +kernel
theorem la_133 : px_lay tT 133 = some (.inl 10) := by decide +kernel
theorem la_134 : px_lay tT 134 = some (.inr (0, 7)) := by decide +kernel
theorem la_135 : px_lay tT 135 = some (.inr (0, 6)) := by decide +kernel
theorem la_136 : px_lay tT 136 = some (.inr (0, 900)) := by decide +kernel
theorem la_137 : px_lay tT 137 = some (.inr (0, 144)) := by decide +kernel
theorem la_140 : px_lay tT 140 = some (.inl 1) := by decide +kernel
theorem la_141 : px_lay tT 141 = some (.inl 11) := by decide +kernel
theorem la_142 : px_lay tT 142 = some (.inr (0, 11)) := by decide +kernel
theorem la_143 : px_lay tT 143 = some (.inl 10) := by decide +kernel
theorem la_144 : px_lay tT 144 = some (.inr (0, 7)) := by decide +kernel
theorem la_145 : px_lay tT 145 = some (.inr (0, 6)) := by decide +kernel
theorem la_146 : px_lay tT 146 = some (.inr (0, 900)) := by decide +kernel
theorem la_147 : px_lay tT 147 = some (.inr (0, 144)) := by decide +kernel
theorem la_150 : px_lay tT 150 = some (.inl 9) := by decide +kernel
theorem la_151 : px_lay tT 151 = some (.inr (1, 900)) := by decide +kernel
theorem la_152 : px_lay tT 152 = some (.inr (0, 901)) := by decide +kernel
theorem la_153 : px_lay tT 153 = some (.inr (0, 901)) := by decide +kernel
theorem la_160 : px_lay tT 160 = some (.inl 3) := by decide +kernel
theorem la_161 : px_lay tT 161 = some (.inr (0, 2048)) := by decide +kernel
theorem la_170 : px_lay tT 170 = some (.inl 8) := by decide +kernel
theorem la_171 : px_lay tT 171 = some (.inr (0, 11)) := by decide +kernel
theorem la_172 : px_lay tT 172 = some (.inr (0, 132)) := by decide +kernel
theorem la_173 : px_lay tT 173 = some (.inl 11) := by decide +kernel
theorem la_174 : px_lay tT 174 = some (.inr (0, 11)) := by decide +kernel
theorem la_180 : px_lay tT 180 = some (.inl 4) := by decide +kernel
theorem la_181 : px_lay tT 181 = some (.inl 3) := by decide +kernel
theorem la_182 : px_lay tT 182 = some (.inr (0, 2048)) := by decide +kernel
theorem la_183 : px_lay tT 183 = some (.inr (0, 2048)) := by decide +kernel
theorem la_184 : px_lay tT 184 = some (.inr (0, 11)) := by decide +kernel
theorem la_185 : px_lay tT 185 = some (.inl 11) := by decide +kernel
theorem la_186 : px_lay tT 186 = some (.inr (0, 11)) := by decide +kernel
theorem la_190 : px_lay tT 190 = some (.inl 6) := by decide +kernel
theorem la_191 : px_lay tT 191 = some (.inr (0, 11)) := by decide +kernel
theorem la_192 : px_lay tT 192 = some (.inl 11) := by decide +kernel
theorem la_193 : px_lay tT 193 = some (.inr (0, 11)) := by decide +kernel
theorem la_194 : px_lay tT 194 = some (.inl 11) := by decide +kernel
theorem la_195 : px_lay tT 195 = some (.inr (0, 11)) := by decide +kernel
theorem la_200 : px_lay tT 200 = some (.inl 5) := by decide +kernel
theorem la_201 : px_lay tT 201 = some (.inl 11) := by decide +kernel
theorem la_202 : px_lay tT 202 = some (.inr (0, 11)) := by decide +kernel
theorem la_210 : px_lay tT 210 = some (.inl 2) := by decide +kernel
theorem la_211 : px_lay tT 211 = some (.inl 8) := by decide +kernel
theorem la_212 : px_lay tT 212 = some (.inr (0, 11)) := by decide +kernel
theorem la_213 : px_lay tT 213 = some (.inr (0, 132)) := by decide +kernel
theorem la_214 : px_lay tT 214 = some (.inl 11) := by decide +kernel
theorem la_215 : px_lay tT 215 = some (.inr (0, 11)) := by decide +kernel
theorem la_216 : px_lay tT 216 = some (.inl 11) := by decide +kernel
theorem la_217 : px_lay tT 217 = some (.inr (0, 11)) := by decide +kernel
theorem la_218 : px_lay tT 218 = some (.inr (0, 64)) := by decide +kernel
theorem la_219 : px_lay tT 219 = some (.inr (0, 6)) := by decide +kernel
theorem la_220 : px_lay tT 220 = some (.inr (0, 99)) := by decide +kernel
theorem la_221 : px_lay tT 221 = some (.inl 10) := by decide +kernel
theorem la_222 : px_lay tT 222 = some (.inr (0, 7)) := by decide +kernel
theorem la_223 : px_lay tT 223 = some (.inr (0, 6)) := by decide +kernel
theorem la_224 : px_lay tT 224 = some (.inr (0, 900)) := by decide +kernel
theorem la_225 : px_lay tT 225 = some (.inl 11) := by decide +kernel
theorem la_226 : px_lay tT 226 = some (.inr (0, 11)) := by decide +kernel
theorem la_230 : px_lay tT 230 = some (.inl 7) := by decide +kernel
theorem la_231 : px_lay tT 231 = some (.inl 11) := by decide +kernel
theorem la_232 : px_lay tT 232 = some (.inr (0, 11)) := by decide +kernel
theorem la_233 : px_lay tT 233 = some (.inl 11) := by decide +kernel
theorem la_234 : px_lay tT 234 = some (.inr (0, 11)) := by decide +kernel
theorem la_240 : px_lay tT 240 = some (.inl 11) := by decide +kernel
theorem la_241 : px_lay tT 241 = some (.inr (0, 11)) := by decide +kernel
theorem la_x : ∀ q ∈ pn_xt, px_lay tT q.1 = some q.2 := by decide +kernel
theorem la_1000 : px_lay tT 1000 = some (.inl 23) := by decide +kernel
theorem la_1001 : px_lay tT 1001 = some (.inl 23) := by decide +kernel
theorem la_1002 : px_lay tT 1002 = some (.inl 23) := by decide +kernel
theorem la_1003 : px_lay tT 1003 = some (.inl 23) := by decide +kernel
theorem la_1004 : px_lay tT 1004 = some (.inl 23) := by decide +kernel
theorem la_1005 : px_lay tT 1005 = some (.inl 23) := by decide +kernel
theorem la_1006 : px_lay tT 1006 = some (.inl 23) := by decide +kernel
theorem la_1007 : px_lay tT 1007 = some (.inl 23) := by decide +kernel
theorem la_1008 : px_lay tT 1008 = some (.inl 23) := by decide +kernel
theorem la_1009 : px_lay tT 1009 = some (.inl 23) := by decide +kernel
theorem la_1010 : px_lay tT 1010 = some (.inl 23) := by decide +kernel
theorem la_1011 : px_lay tT 1011 = some (.inl 23) := by decide +kernel
theorem la_1012 : px_lay tT 1012 = some (.inl 23) := by decide +kernel
theorem la_1013 : px_lay tT 1013 = some (.inl 23) := by decide +kernel
theorem la_1014 : px_lay tT 1014 = some (.inl 23) := by decide +kernel
theorem la_1015 : px_lay tT 1015 = some (.inl 23) := by decide +kernel
theorem la_1016 : px_lay tT 1016 = some (.inl 23) := by decide +kernel
theorem la_1017 : px_lay tT 1017 = some (.inl 23) := by decide +kernel
theorem la_1100 : px_lay tT 1100 = some (.inr (10, 84)) := by decide +kernel
theorem la_1101 : px_lay tT 1101 = some (.inr (10, 12)) := by decide +kernel
theorem la_1102 : px_lay tT 1102 = some (.inr (10, 12)) := by decide +kernel
theorem la_1103 : px_lay tT 1103 = some (.inr (10, 6)) := by decide +kernel
theorem la_1104 : px_lay tT 1104 = some (.inr (10, 4)) := by decide +kernel
theorem la_1105 : px_lay tT 1105 = some (.inr (10, 4)) := by decide +kernel
theorem la_1106 : px_lay tT 1106 = some (.inr (10, 4)) := by decide +kernel
theorem la_1107 : px_lay tT 1107 = some (.inr (10, 3)) := by decide +kernel
theorem la_1108 : px_lay tT 1108 = some (.inr (10, 3)) := by decide +kernel
theorem la_1109 : px_lay tT 1109 = some (.inr (10, 2)) := by decide +kernel
theorem la_1110 : px_lay tT 1110 = some (.inr (10, 5)) := by decide +kernel
theorem la_1111 : px_lay tT 1111 = some (.inr (10, 6)) := by decide +kernel
theorem la_1112 : px_lay tT 1112 = some (.inr (10, 5)) := by decide +kernel
theorem la_1113 : px_lay tT 1113 = some (.inr (10, 3)) := by decide +kernel
theorem la_1114 : px_lay tT 1114 = some (.inr (10, 5)) := by decide +kernel
theorem la_1115 : px_lay tT 1115 = some (.inr (10, 5)) := by decide +kernel
theorem la_1116 : px_lay tT 1116 = some (.inr (10, 7)) := by decide +kernel
theorem la_1117 : px_lay tT 1117 = some (.inr (10, 6)) := by decide +kernel
theorem la_2000 : px_lay tT 2000 = some (.inr (11, 6)) := by decide +kernel
theorem la_2001 : px_lay tT 2001 = some (.inr (11, 6)) := by decide +kernel
theorem la_2002 : px_lay tT 2002 = some (.inr (11, 7)) := by decide +kernel
theorem la_2003 : px_lay tT 2003 = some (.inr (11, 7)) := by decide +kernel
/-- the references that never change: cell, slot, where it points -/
def mR_l : List (Nat × Nat × Nat) := [(0, 1, 1), (0, 2, 2), (0, 3, 3), (0, 4, 4), (0, 15, 15), (0, 16, 16), (0, 17, 17), (0, 18, 18), (0, 19, 19), (0, 20, 20), (0, 23, 23), (0, 24, 24), (0, 25, 25), (0, 26, 26), (0, 27, 27), (0, 28, 28), (0, 31, 31), (0, 35, 35), (0, 36, 36), (0, 37, 37)]
def mR (R : Nat → Nat → Option Nat) : Prop := ∀ q ∈ mR_l, R q.1 q.2.1 = some q.2.2
theorem rm_0_1 {R : Nat → Nat → Option Nat} (h : mR R) : R 0 1 = some 1 := h (0, 1, 1) (by decide)
theorem rm_0_2 {R : Nat → Nat → Option Nat} (h : mR R) : R 0 2 = some 2 := h (0, 2, 2) (by decide)
theorem rm_0_3 {R : Nat → Nat → Option Nat} (h : mR R) : R 0 3 = some 3 := h (0, 3, 3) (by decide)
theorem rm_0_4 {R : Nat → Nat → Option Nat} (h : mR R) : R 0 4 = some 4 := h (0, 4, 4) (by decide)
theorem rm_0_15 {R : Nat → Nat → Option Nat} (h : mR R) : R 0 15 = some 15 := h (0, 15, 15) (by decide)
theorem rm_0_16 {R : Nat → Nat → Option Nat} (h : mR R) : R 0 16 = some 16 := h (0, 16, 16) (by decide)
theorem rm_0_17 {R : Nat → Nat → Option Nat} (h : mR R) : R 0 17 = some 17 := h (0, 17, 17) (by decide)
theorem rm_0_18 {R : Nat → Nat → Option Nat} (h : mR R) : R 0 18 = some 18 := h (0, 18, 18) (by decide)
theorem rm_0_19 {R : Nat → Nat → Option Nat} (h : mR R) : R 0 19 = some 19 := h (0, 19, 19) (by decide)
theorem rm_0_20 {R : Nat → Nat → Option Nat} (h : mR R) : R 0 20 = some 20 := h (0, 20, 20) (by decide)
theorem rm_0_23 {R : Nat → Nat → Option Nat} (h : mR R) : R 0 23 = some 23 := h (0, 23, 23) (by decide)
theorem rm_0_24 {R : Nat → Nat → Option Nat} (h : mR R) : R 0 24 = some 24 := h (0, 24, 24) (by decide)
theorem rm_0_25 {R : Nat → Nat → Option Nat} (h : mR R) : R 0 25 = some 25 := h (0, 25, 25) (by decide)
theorem rm_0_26 {R : Nat → Nat → Option Nat} (h : mR R) : R 0 26 = some 26 := h (0, 26, 26) (by decide)
theorem rm_0_27 {R : Nat → Nat → Option Nat} (h : mR R) : R 0 27 = some 27 := h (0, 27, 27) (by decide)
theorem rm_0_28 {R : Nat → Nat → Option Nat} (h : mR R) : R 0 28 = some 28 := h (0, 28, 28) (by decide)
theorem rm_0_31 {R : Nat → Nat → Option Nat} (h : mR R) : R 0 31 = some 31 := h (0, 31, 31) (by decide)
theorem rm_0_35 {R : Nat → Nat → Option Nat} (h : mR R) : R 0 35 = some 35 := h (0, 35, 35) (by decide)
theorem rm_0_36 {R : Nat → Nat → Option Nat} (h : mR R) : R 0 36 = some 36 := h (0, 36, 36) (by decide)
theorem rm_0_37 {R : Nat → Nat → Option Nat} (h : mR R) : R 0 37 = some 37 := h (0, 37, 37) (by decide)
def cR_l : List (Nat × Nat × Nat) := [(100, 0, 110), (100, 1, 120), (100, 2, 130), (100, 3, 102), (100, 4, 150), (100, 5, 160), (100, 6, 170), (100, 7, 180), (100, 8, 190), (100, 9, 200), (100, 10, 210), (100, 11, 230), (100, 12, 240), (100, 13, 103), (100, 14, 104), (100, 15, 105), (110, 0, 111), (110, 1, 113), (110, 5, 117), (111, 1, 112), (113, 1, 114), (113, 2, 115), (113, 3, 116), (120, 0, 121), (120, 1, 123), (120, 5, 127), (121, 1, 122), (123, 1, 124), (123, 2, 125), (123, 3, 126), (130, 0, 131), (130, 1, 133), (130, 5, 137), (131, 1, 132), (133, 1, 134), (133, 2, 135), (133, 3, 136), (140, 0, 141), (140, 1, 143), (140, 5, 147), (141, 1, 142), (143, 1, 144), (143, 2, 145), (143, 3, 146), (150, 3, 140), (150, 4, 151), (150, 5, 152), (150, 6, 153), (160, 0, 161), (170, 0, 171), (170, 1, 172), (173, 1, 174), (180, 0, 181), (180, 1, 183), (180, 2, 184), (181, 0, 182), (185, 1, 186), (190, 0, 191), (192, 1, 193), (194, 1, 195), (200, 0, 201), (201, 1, 202), (210, 0, 211), (210, 1, 216), (210, 2, 218), (210, 3, 219), (210, 4, 220), (211, 0, 212), (211, 1, 213), (214, 1, 215), (216, 1, 217), (221, 1, 222), (221, 2, 223), (221, 3, 224), (225, 1, 226), (230, 0, 231), (230, 1, 233), (231, 1, 232), (233, 1, 234), (240, 1, 241)]
def cR (R : Nat → Nat → Option Nat) : Prop := ∀ q ∈ cR_l, R q.1 q.2.1 = some q.2.2
theorem rc_100_0 {R : Nat → Nat → Option Nat} (h : cR R) : R 100 0 = some 110 := h (100, 0, 110) (by decide)
theorem rc_100_1 {R : Nat → Nat → Option Nat} (h : cR R) : R 100 1 = some 120 := h (100, 1, 120) (by decide)
theorem rc_100_2 {R : Nat → Nat → Option Nat} (h : cR R) : R 100 2 = some 130 := h (100, 2, 130) (by decide)
theorem rc_100_3 {R : Nat → Nat → Option Nat} (h : cR R) : R 100 3 = some 102 := h (100, 3, 102) (by decide)
theorem rc_100_4 {R : Nat → Nat → Option Nat} (h : cR R) : R 100 4 = some 150 := h (100, 4, 150) (by decide)
theorem rc_100_5 {R : Nat → Nat → Option Nat} (h : cR R) : R 100 5 = some 160 := h (100, 5, 160) (by decide)
theorem rc_100_6 {R : Nat → Nat → Option Nat} (h : cR R) : R 100 6 = some 170 := h (100, 6, 170) (by decide)
theorem rc_100_7 {R : Nat → Nat → Option Nat} (h : cR R) : R 100 7 = some 180 := h (100, 7, 180) (by decide)
theorem rc_100_8 {R : Nat → Nat → Option Nat} (h : cR R) : R 100 8 = some 190 := h (100, 8, 190) (by decide)
theorem rc_100_9 {R : Nat → Nat → Option Nat} (h : cR R) : R 100 9 = some 200 := h (100, 9, 200) (by decide)
theorem rc_100_10 {R : Nat → Nat → Option Nat} (h : cR R) : R 100 10 = some 210 := h (100, 10, 210) (by decide)
theorem rc_100_11 {R : Nat → Nat → Option Nat} (h : cR R) : R 100 11 = some 230 := h (100, 11, 230) (by decide)
theorem rc_100_12 {R : Nat → Nat → Option Nat} (h : cR R) : R 100 12 = some 240 := h (100, 12, 240) (by decide)
theorem rc_100_13 {R : Nat → Nat → Option Nat} (h : cR R) : R 100 13 = some 103 := h (100, 13, 103) (by decide)
theorem rc_100_14 {R : Nat → Nat → Option Nat} (h : cR R) : R 100 14 = some 104 := h (100, 14, 104) (by decide)
theorem rc_100_15 {R : Nat → Nat → Option Nat} (h : cR R) : R 100 15 = some 105 := h (100, 15, 105) (by decide)
theorem rc_110_0 {R : Nat → Nat → Option Nat} (h : cR R) : R 110 0 = some 111 := h (110, 0, 111) (by decide)
theorem rc_110_1 {R : Nat → Nat → Option Nat} (h : cR R) : R 110 1 = some 113 := h (110, 1, 113) (by decide)
theorem rc_110_5 {R : Nat → Nat → Option Nat} (h : cR R) : R 110 5 = some 117 := h (110, 5, 117) (by decide)
theorem rc_111_1 {R : Nat → Nat → Option Nat} (h : cR R) : R 111 1 = some 112 := h (111, 1, 112) (by decide)
theorem rc_113_1 {R : Nat → Nat → Option Nat} (h : cR R) : R 113 1 = some 114 := h (113, 1, 114) (by decide)
theorem rc_113_2 {R : Nat → Nat → Option Nat} (h : cR R) : R 113 2 = some 115 := h (113, 2, 115) (by decide)
theorem rc_113_3 {R : Nat → Nat → Option Nat} (h : cR R) : R 113 3 = some 116 := h (113, 3, 116) (by decide)
theorem rc_120_0 {R : Nat → Nat → Option Nat} (h : cR R) : R 120 0 = some 121 := h (120, 0, 121) (by decide)
theorem rc_120_1 {R : Nat → Nat → Option Nat} (h : cR R) : R 120 1 = some 123 := h (120, 1, 123) (by decide)
theorem rc_120_5 {R : Nat → Nat → Option Nat} (h : cR R) : R 120 5 = some 127 := h (120, 5, 127) (by decide)
theorem rc_121_1 {R : Nat → Nat → Option Nat} (h : cR R) : R 121 1 = some 122 := h (121, 1, 122) (by decide)
theorem rc_123_1 {R : Nat → Nat → Option Nat} (h : cR R) : R 123 1 = some 124 := h (123, 1, 124) (by decide)
theorem rc_123_2 {R : Nat → Nat → Option Nat} (h : cR R) : R 123 2 = some 125 := h (123, 2, 125) (by decide)
theorem rc_123_3 {R : Nat → Nat → Option Nat} (h : cR R) : R 123 3 = some 126 := h (123, 3, 126) (by decide)
theorem rc_130_0 {R : Nat → Nat → Option Nat} (h : cR R) : R 130 0 = some 131 := h (130, 0, 131) (by decide)
theorem rc_130_1 {R : Nat → Nat → Option Nat} (h : cR R) : R 130 1 = some 133 := h (130, 1, 133) (by decide)
theorem rc_130_5 {R : Nat → Nat → Option Nat} (h : cR R) : R 130 5 = some 137 := h (130, 5, 137) (by decide)
theorem rc_131_1 {R : Nat → Nat → Option Nat} (h : cR R) : R 131 1 = some 132 := h (131, 1, 132) (by decide)
theorem rc_133_1 {R : Nat → Nat → Option Nat} (h : cR R) : R 133 1 = some 134 := h (133, 1, 134) (by decide)
theorem rc_133_2 {R : Nat → Nat → Option Nat} (h : cR R) : R 133 2 = some 135 := h (133, 2, 135) (by decide)
theorem rc_133_3 {R : Nat → Nat → Option Nat} (h : cR R) : R 133 3 = some 136 := h (133, 3, 136) (by decide)
theorem rc_140_0 {R : Nat → Nat → Option Nat} (h : cR R) : R 140 0 = some 141 := h (140, 0, 141) (by decide)
theorem rc_140_1 {R : Nat → Nat → Option Nat} (h : cR R) : R 140 1 = some 143 := h (140, 1, 143) (by decide)
theorem rc_140_5 {R : Nat → Nat → Option Nat} (h : cR R) : R 140 5 = some 147 := h (140, 5, 147) (by decide)
theorem rc_141_1 {R : Nat → Nat → Option Nat} (h : cR R) : R 141 1 = some 142 := h (141, 1, 142) (by decide)
theorem rc_143_1 {R : Nat → Nat → Option Nat} (h : cR R) : R 143 1 = some 144 := h (143, 1, 144) (by decide)
theorem rc_143_2 {R : Nat → Nat → Option Nat} (h : cR R) : R 143 2 = some 145 := h (143, 2, 145) (by decide)
theorem rc_143_3 {R : Nat → Nat → Option Nat} (h : cR R) : R 143 3 = some 146 := h (143, 3, 146) (by decide)
theorem rc_150_3 {R : Nat → Nat → Option Nat} (h : cR R) : R 150 3 = some 140 := h (150, 3, 140) (by decide)
theorem rc_150_4 {R : Nat → Nat → Option Nat} (h : cR R) : R 150 4 = some 151 := h (150, 4, 151) (by decide)
theorem rc_150_5 {R : Nat → Nat → Option Nat} (h : cR R) : R 150 5 = some 152 := h (150, 5, 152) (by decide)
theorem rc_150_6 {R : Nat → Nat → Option Nat} (h : cR R) : R 150 6 = some 153 := h (150, 6, 153) (by decide)
theorem rc_160_0 {R : Nat → Nat → Option Nat} (h : cR R) : R 160 0 = some 161 := h (160, 0, 161) (by decide)
theorem rc_170_0 {R : Nat → Nat → Option Nat} (h : cR R) : R 170 0 = some 171 := h (170, 0, 171) (by decide)
theorem rc_170_1 {R : Nat → Nat → Option Nat} (h : cR R) : R 170 1 = some 172 := h (170, 1, 172) (by decide)
theorem rc_173_1 {R : Nat → Nat → Option Nat} (h : cR R) : R 173 1 = some 174 := h (173, 1, 174) (by decide)
theorem rc_180_0 {R : Nat → Nat → Option Nat} (h : cR R) : R 180 0 = some 181 := h (180, 0, 181) (by decide)
theorem rc_180_1 {R : Nat → Nat → Option Nat} (h : cR R) : R 180 1 = some 183 := h (180, 1, 183) (by decide)
theorem rc_180_2 {R : Nat → Nat → Option Nat} (h : cR R) : R 180 2 = some 184 := h (180, 2, 184) (by decide)
theorem rc_181_0 {R : Nat → Nat → Option Nat} (h : cR R) : R 181 0 = some 182 := h (181, 0, 182) (by decide)
theorem rc_185_1 {R : Nat → Nat → Option Nat} (h : cR R) : R 185 1 = some 186 := h (185, 1, 186) (by decide)
theorem rc_190_0 {R : Nat → Nat → Option Nat} (h : cR R) : R 190 0 = some 191 := h (190, 0, 191) (by decide)
theorem rc_192_1 {R : Nat → Nat → Option Nat} (h : cR R) : R 192 1 = some 193 := h (192, 1, 193) (by decide)
theorem rc_194_1 {R : Nat → Nat → Option Nat} (h : cR R) : R 194 1 = some 195 := h (194, 1, 195) (by decide)
theorem rc_200_0 {R : Nat → Nat → Option Nat} (h : cR R) : R 200 0 = some 201 := h (200, 0, 201) (by decide)
theorem rc_201_1 {R : Nat → Nat → Option Nat} (h : cR R) : R 201 1 = some 202 := h (201, 1, 202) (by decide)
theorem rc_210_0 {R : Nat → Nat → Option Nat} (h : cR R) : R 210 0 = some 211 := h (210, 0, 211) (by decide)
theorem rc_210_1 {R : Nat → Nat → Option Nat} (h : cR R) : R 210 1 = some 216 := h (210, 1, 216) (by decide)
theorem rc_210_2 {R : Nat → Nat → Option Nat} (h : cR R) : R 210 2 = some 218 := h (210, 2, 218) (by decide)
theorem rc_210_3 {R : Nat → Nat → Option Nat} (h : cR R) : R 210 3 = some 219 := h (210, 3, 219) (by decide)
theorem rc_210_4 {R : Nat → Nat → Option Nat} (h : cR R) : R 210 4 = some 220 := h (210, 4, 220) (by decide)
theorem rc_211_0 {R : Nat → Nat → Option Nat} (h : cR R) : R 211 0 = some 212 := h (211, 0, 212) (by decide)
theorem rc_211_1 {R : Nat → Nat → Option Nat} (h : cR R) : R 211 1 = some 213 := h (211, 1, 213) (by decide)
theorem rc_214_1 {R : Nat → Nat → Option Nat} (h : cR R) : R 214 1 = some 215 := h (214, 1, 215) (by decide)
theorem rc_216_1 {R : Nat → Nat → Option Nat} (h : cR R) : R 216 1 = some 217 := h (216, 1, 217) (by decide)
theorem rc_221_1 {R : Nat → Nat → Option Nat} (h : cR R) : R 221 1 = some 222 := h (221, 1, 222) (by decide)
theorem rc_221_2 {R : Nat → Nat → Option Nat} (h : cR R) : R 221 2 = some 223 := h (221, 2, 223) (by decide)
theorem rc_221_3 {R : Nat → Nat → Option Nat} (h : cR R) : R 221 3 = some 224 := h (221, 3, 224) (by decide)
theorem rc_225_1 {R : Nat → Nat → Option Nat} (h : cR R) : R 225 1 = some 226 := h (225, 1, 226) (by decide)
theorem rc_230_0 {R : Nat → Nat → Option Nat} (h : cR R) : R 230 0 = some 231 := h (230, 0, 231) (by decide)
theorem rc_230_1 {R : Nat → Nat → Option Nat} (h : cR R) : R 230 1 = some 233 := h (230, 1, 233) (by decide)
theorem rc_231_1 {R : Nat → Nat → Option Nat} (h : cR R) : R 231 1 = some 232 := h (231, 1, 232) (by decide)
theorem rc_233_1 {R : Nat → Nat → Option Nat} (h : cR R) : R 233 1 = some 234 := h (233, 1, 234) (by decide)
theorem rc_240_1 {R : Nat → Nat → Option Nat} (h : cR R) : R 240 1 = some 241 := h (240, 1, 241) (by decide)
