/-! texts and statics, at the law's start: printed by wip/whole/gentext.py -/
def kwT (tm : Term) (bs : List Int32) : List Cond := [Cond.exactly tm "java/lang/String", Cond.eq (.field tm "java/lang/String" "coder" "B") (.int 0), Cond.arrayOf (.field tm "java/lang/String" "value" "[B") .byte, Cond.eq (.length (.field tm "java/lang/String" "value" "[B")) (.int (Int32.ofNat bs.length))] ++ (List.range bs.length).map (fun j => Cond.eq (.elem (.field tm "java/lang/String" "value" "[B") (.int (Int32.ofNat j))) (.int (bs.getD j 0)))
def kwR (tm : Term) (bs : List Int32) : List Cond := [Cond.arrayOf tm .int, Cond.eq (.length tm) (.int (Int32.ofNat bs.length))] ++ (List.range bs.length).map (fun j => Cond.eq (.elem tm (.int (Int32.ofNat j))) (.int (bs.getD j 0)))
theorem lw_txt {args : Array Value} {s : State} {A : Nat → Prop} {tm : Term} (bs : List Int32) (hn : bs.length < 100) (hw : ∀ w ∈ kwT tm bs, w.before args s = true) (hA : ∀ a : Nat, a < s.heap.size → ¬ A a) : ∃ a v : Nat, tm.eval args s none [] s = some (.ref a) ∧ va_O "java/lang/String" a A s s.heap ∧ va_OF "java/lang/String" "coder" "B" (.int 0) a A s s.heap ∧ va_OF "java/lang/String" "value" "[B" (.ref v) a A s s.heap ∧ va_T .byte v bs.length (fun j => .int (bs.getD j 0)) A s s.heap := by
  have m0 : ∀ (k : Nat) (w : Cond), (kwT tm bs)[k]? = some w → w.before args s = true := fun k w h => hw w (List.mem_of_getElem? h)
  obtain ⟨adK, adV, h1, h2⟩ := vk_Sof (N := 1) (tm := fun _ => tm) (len := [bs.length]) (byt := [bs]) (A := A) (args := args) (s := s) (fun i hi => by rw [show i = 0 by omega]; show bs.length < 2 ^ 31; omega) (fun i hi => m0 0 _ rfl) (fun i hi => m0 1 _ rfl) (fun i hi => m0 2 _ rfl) (fun i hi => by rw [show i = 0 by omega]; exact m0 3 _ rfl) (fun i hi j hj => by
    rw [show i = 0 by omega] at hj ⊢
    exact hw _ (List.mem_append_right _ (List.mem_map.mpr ⟨j, List.mem_range.mpr hj, rfl⟩))) (fun i j hi hj hij => absurd (by omega) hij) hA
  obtain ⟨q1, q2, q3, q4⟩ := h1.1 0 (by omega)
  exact ⟨adK 0, adV 0, h2 0 (by omega), q1, q2, q3, q4⟩
theorem lw_row {args : Array Value} {s : State} {A : Nat → Prop} {tm : Term} (bs : List Int32) (hn : bs.length < 100) (hw : ∀ w ∈ kwR tm bs, w.before args s = true) (hA : ∀ a : Nat, a < s.heap.size → ¬ A a) : ∃ t : Nat, tm.eval args s none [] s = some (.ref t) ∧ va_T .int t bs.length (fun j => .int (bs.getD j 0)) A s s.heap := by
  have m0 : ∀ (k : Nat) (w : Cond), (kwR tm bs)[k]? = some w → w.before args s = true := fun k w h => hw w (List.mem_of_getElem? h)
  exact va_Tof (by omega) (m0 0 _ rfl) (va_eqt (m0 1 _ rfl)) (fun j hj => va_eqt (hw _ (List.mem_append_right _ (List.mem_map.mpr ⟨j, List.mem_range.mpr hj, rfl⟩)))) hA
theorem kw_pos {F ws : List Cond} {ps : List Nat} (h : ps.map (fun p => F[p]?) = ws.map some) : ∀ w ∈ ws, w ∈ F := fun w hw => by
  have h1 : some w ∈ ps.map (fun p => F[p]?) := by rw [h]; exact List.mem_map.mpr ⟨w, hw, rfl⟩
  obtain ⟨p, -, hp⟩ := List.mem_map.mp h1
  exact List.mem_of_getElem? hp
def kF : List Cond := flatC (Jvm.Cond.and given_1 narrow_1)
theorem kt_0 : ∀ w ∈ kwT (.string "NoThreeModel" 85) [nI 32, nI 104, nI 111, nI 117, nI 115, nI 101, nI 115, nI 32, nI 100, nI 111, nI 111, nI 114, nI 32, nI 114, nI 105, nI 110, nI 103, nI 32, nI 114, nI 117, nI 108, nI 101, nI 32, nI 111, nI 114, nI 32, nI 97, nI 110, nI 100, nI 32, nI 110, nI 111, nI 116, nI 32, nI 100, nI 111, nI 111, nI 114, nI 115, nI 32, nI 116, nI 104, nI 114, nI 101, nI 101, nI 115, nI 32, nI 102, nI 111, nI 117, nI 114, nI 115, nI 32, nI 102, nI 97, nI 114, nI 32, nI 112, nI 97, nI 105, nI 114, nI 115, nI 32, nI 102, nI 101, nI 97, nI 115, nI 116, nI 32, nI 99, nI 111, nI 108, nI 111, nI 117, nI 114, nI 115, nI 32, nI 104, nI 97, nI 108, nI 118, nI 101, nI 115, nI 32], w ∈ kF := kw_pos (ps := [311, 312, 313, 314, 315, 316, 317, 318, 319, 320, 321, 322, 323, 324, 325, 326, 327, 328, 329, 330, 331, 332, 333, 334, 335, 336, 337, 338, 339, 340, 341, 342, 343, 344, 345, 346, 347, 348, 349, 350, 351, 352, 353, 354, 355, 356, 357, 358, 359, 360, 361, 362, 363, 364, 365, 366, 367, 368, 369, 370, 371, 372, 373, 374, 375, 376, 377, 378, 379, 380, 381, 382, 383, 384, 385, 386, 387, 388, 389, 390, 391, 392, 393, 394, 395, 396, 397, 398]) (by decide +kernel)
theorem kt_1 : ∀ w ∈ kwT (.string "NoThreeModel" 123) [nI 59, nI 58, nI 43, nI 45, nI 42, nI 40, nI 41, nI 91, nI 93, nI 61, nI 60, nI 62], w ∈ kF := kw_pos (ps := [415, 416, 417, 418, 419, 420, 421, 422, 423, 424, 425, 426, 427, 428, 429, 430]) (by decide +kernel)
theorem kt_2 : ∀ w ∈ kwT (.string "NoThree$Reader" 108) [nI 59, nI 58, nI 43, nI 45, nI 42, nI 40, nI 41, nI 91, nI 93, nI 61, nI 60, nI 62], w ∈ kF := kw_pos (ps := [280, 281, 282, 283, 284, 285, 286, 287, 288, 289, 290, 291, 292, 293, 294, 295]) (by decide +kernel)
theorem kt_3 : ∀ w ∈ kwT (.string "NoThree$Reader" 115) [nI 104, nI 111, nI 117, nI 115, nI 101, nI 115], w ∈ kF := kw_pos (ps := [47, 48, 49, 50, 51, 52, 53, 54, 55, 56]) (by decide +kernel)
theorem kt_4 : ∀ w ∈ kwT (.string "NoThree$Reader" 123) [nI 100, nI 111, nI 111, nI 114], w ∈ kF := kw_pos (ps := [57, 58, 59, 60, 61, 62, 63, 64]) (by decide +kernel)
theorem kt_5 : ∀ w ∈ kwT (.string "NoThree$Reader" 125) [nI 114, nI 105, nI 110, nI 103], w ∈ kF := kw_pos (ps := [66, 67, 68, 69, 70, 71, 72, 73]) (by decide +kernel)
theorem kt_6 : ∀ w ∈ kwT (.string "NoThree$Reader" 127) [nI 114, nI 117, nI 108, nI 101], w ∈ kF := kw_pos (ps := [76, 77, 78, 79, 80, 81, 82, 83]) (by decide +kernel)
theorem kt_7 : ∀ w ∈ kwT (.string "NoThree$Reader" 129) [nI 110, nI 111, nI 116], w ∈ kF := kw_pos (ps := [87, 88, 89, 90, 91, 92, 93]) (by decide +kernel)
theorem kt_8 : ∀ w ∈ kwT (.string "NoThree$Reader" 131) [nI 97, nI 110, nI 100], w ∈ kF := kw_pos (ps := [98, 99, 100, 101, 102, 103, 104]) (by decide +kernel)
theorem kt_9 : ∀ w ∈ kwT (.string "NoThree$Reader" 133) [nI 111, nI 114], w ∈ kF := kw_pos (ps := [110, 111, 112, 113, 114, 115]) (by decide +kernel)
theorem kt_10 : ∀ w ∈ kwT (.string "NoThree$Reader" 138) [nI 100, nI 111, nI 111, nI 114, nI 115], w ∈ kF := kw_pos (ps := [122, 123, 124, 125, 126, 127, 128, 129, 130]) (by decide +kernel)
theorem kt_11 : ∀ w ∈ kwT (.string "NoThree$Reader" 140) [nI 116, nI 104, nI 114, nI 101, nI 101, nI 115], w ∈ kF := kw_pos (ps := [138, 139, 140, 141, 142, 143, 144, 145, 146, 147]) (by decide +kernel)
theorem kt_12 : ∀ w ∈ kwT (.string "NoThree$Reader" 142) [nI 102, nI 111, nI 117, nI 114, nI 115], w ∈ kF := kw_pos (ps := [156, 157, 158, 159, 160, 161, 162, 163, 164]) (by decide +kernel)
theorem kt_13 : ∀ w ∈ kwT (.string "NoThree$Reader" 144) [nI 102, nI 97, nI 114], w ∈ kF := kw_pos (ps := [174, 175, 176, 177, 178, 179, 180]) (by decide +kernel)
theorem kt_14 : ∀ w ∈ kwT (.string "NoThree$Reader" 146) [nI 112, nI 97, nI 105, nI 114, nI 115], w ∈ kF := kw_pos (ps := [191, 192, 193, 194, 195, 196, 197, 198, 199]) (by decide +kernel)
theorem kt_15 : ∀ w ∈ kwT (.string "NoThree$Reader" 148) [nI 102, nI 101, nI 97, nI 115, nI 116], w ∈ kF := kw_pos (ps := [211, 212, 213, 214, 215, 216, 217, 218, 219]) (by decide +kernel)
theorem kt_16 : ∀ w ∈ kwT (.string "NoThree$Reader" 150) [nI 99, nI 111, nI 108, nI 111, nI 117, nI 114, nI 115], w ∈ kF := kw_pos (ps := [232, 233, 234, 235, 236, 237, 238, 239, 240, 241, 242]) (by decide +kernel)
theorem kt_17 : ∀ w ∈ kwT (.string "NoThree$Reader" 152) [nI 104, nI 97, nI 108, nI 118, nI 101, nI 115], w ∈ kF := kw_pos (ps := [256, 257, 258, 259, 260, 261, 262, 263, 264, 265]) (by decide +kernel)
theorem kr_0 : ∀ w ∈ kwR (.static "NoThree" "UNLIKE" "[I") [nI 1, nI 1, nI 2, nI 3, nI 7, nI 14], w ∈ kF := kw_pos (ps := [10, 11, 12, 13, 14, 15, 16, 17]) (by decide +kernel)
theorem kr_1 : ∀ w ∈ kwR (.static "NoThree" "UNLIKE_NO_FOURS" "[I") [nI 1, nI 1, nI 2, nI 3, nI 6, nI 11], w ∈ kF := kw_pos (ps := [19, 20, 21, 22, 23, 24, 25, 26]) (by decide +kernel)
theorem kr_2 : ∀ w ∈ kwR (.static "NoThree" "MOST_DOORS" "[I") [nI 0, nI 0, nI 1, nI 2, nI 4, nI 6, nI 9], w ∈ kF := kw_pos (ps := [28, 29, 30, 31, 32, 33, 34, 35, 36]) (by decide +kernel)
theorem kr_3 : ∀ w ∈ kwR (.static "NoThree" "MOST_DOORS_NO_FOURS" "[I") [nI 0, nI 0, nI 1, nI 2, nI 3, nI 5, nI 6], w ∈ kF := kw_pos (ps := [38, 39, 40, 41, 42, 43, 44, 45, 46]) (by decide +kernel)
theorem kq_0 : Cond.eq (.static "java/lang/String" "COMPACT_STRINGS" "Z") (.int 1) ∈ flatC (Jvm.Cond.and given_1 narrow_1) := by decide +kernel
theorem kq_1 : Cond.isRef (.static "jdk/internal/util/Preconditions" "SIOOBE_FORMATTER" "Ljava/util/function/BiFunction;") ∈ flatC (Jvm.Cond.and given_1 narrow_1) := by decide +kernel
set_option maxHeartbeats 4000000 in
set_option maxRecDepth 100000 in
theorem lw_X {s : State} {b : Nat} (hts : ∀ w ∈ lw_tbl, w.before #[Value.ref b] s = true) (hgv : (Jvm.Cond.and given_1 narrow_1).before #[Value.ref b] s = true) : ∃ tx : Nat → Nat, ∀ ad : Nat → Nat, (∀ k, 1000 ≤ k → ad k = tx k) → px_X ad (fun q => s.heap.size ≤ q) s := by
  have hw := flat_of_before _ hgv
  have hA : ∀ a : Nat, a < s.heap.size → ¬ s.heap.size ≤ a := fun a h => Nat.not_le.mpr h
  obtain ⟨a0, v0, e0, p0, c0, w0, t0⟩ := lw_txt (A := fun q => s.heap.size ≤ q) [nI 32, nI 104, nI 111, nI 117, nI 115, nI 101, nI 115, nI 32, nI 100, nI 111, nI 111, nI 114, nI 32, nI 114, nI 105, nI 110, nI 103, nI 32, nI 114, nI 117, nI 108, nI 101, nI 32, nI 111, nI 114, nI 32, nI 97, nI 110, nI 100, nI 32, nI 110, nI 111, nI 116, nI 32, nI 100, nI 111, nI 111, nI 114, nI 115, nI 32, nI 116, nI 104, nI 114, nI 101, nI 101, nI 115, nI 32, nI 102, nI 111, nI 117, nI 114, nI 115, nI 32, nI 102, nI 97, nI 114, nI 32, nI 112, nI 97, nI 105, nI 114, nI 115, nI 32, nI 102, nI 101, nI 97, nI 115, nI 116, nI 32, nI 99, nI 111, nI 108, nI 111, nI 117, nI 114, nI 115, nI 32, nI 104, nI 97, nI 108, nI 118, nI 101, nI 115, nI 32] (by decide) (fun w h => hw w (kt_0 w h)) hA
  obtain ⟨a1, v1, e1, p1, c1, w1, t1⟩ := lw_txt (A := fun q => s.heap.size ≤ q) [nI 59, nI 58, nI 43, nI 45, nI 42, nI 40, nI 41, nI 91, nI 93, nI 61, nI 60, nI 62] (by decide) (fun w h => hw w (kt_1 w h)) hA
  obtain ⟨a2, v2, e2, p2, c2, w2, t2⟩ := lw_txt (A := fun q => s.heap.size ≤ q) [nI 59, nI 58, nI 43, nI 45, nI 42, nI 40, nI 41, nI 91, nI 93, nI 61, nI 60, nI 62] (by decide) (fun w h => hw w (kt_2 w h)) hA
  obtain ⟨a3, v3, e3, p3, c3, w3, t3⟩ := lw_txt (A := fun q => s.heap.size ≤ q) [nI 104, nI 111, nI 117, nI 115, nI 101, nI 115] (by decide) (fun w h => hw w (kt_3 w h)) hA
  obtain ⟨a4, v4, e4, p4, c4, w4, t4⟩ := lw_txt (A := fun q => s.heap.size ≤ q) [nI 100, nI 111, nI 111, nI 114] (by decide) (fun w h => hw w (kt_4 w h)) hA
  obtain ⟨a5, v5, e5, p5, c5, w5, t5⟩ := lw_txt (A := fun q => s.heap.size ≤ q) [nI 114, nI 105, nI 110, nI 103] (by decide) (fun w h => hw w (kt_5 w h)) hA
  obtain ⟨a6, v6, e6, p6, c6, w6, t6⟩ := lw_txt (A := fun q => s.heap.size ≤ q) [nI 114, nI 117, nI 108, nI 101] (by decide) (fun w h => hw w (kt_6 w h)) hA
  obtain ⟨a7, v7, e7, p7, c7, w7, t7⟩ := lw_txt (A := fun q => s.heap.size ≤ q) [nI 110, nI 111, nI 116] (by decide) (fun w h => hw w (kt_7 w h)) hA
  obtain ⟨a8, v8, e8, p8, c8, w8, t8⟩ := lw_txt (A := fun q => s.heap.size ≤ q) [nI 97, nI 110, nI 100] (by decide) (fun w h => hw w (kt_8 w h)) hA
  obtain ⟨a9, v9, e9, p9, c9, w9, t9⟩ := lw_txt (A := fun q => s.heap.size ≤ q) [nI 111, nI 114] (by decide) (fun w h => hw w (kt_9 w h)) hA
  obtain ⟨a10, v10, e10, p10, c10, w10, t10⟩ := lw_txt (A := fun q => s.heap.size ≤ q) [nI 100, nI 111, nI 111, nI 114, nI 115] (by decide) (fun w h => hw w (kt_10 w h)) hA
  obtain ⟨a11, v11, e11, p11, c11, w11, t11⟩ := lw_txt (A := fun q => s.heap.size ≤ q) [nI 116, nI 104, nI 114, nI 101, nI 101, nI 115] (by decide) (fun w h => hw w (kt_11 w h)) hA
  obtain ⟨a12, v12, e12, p12, c12, w12, t12⟩ := lw_txt (A := fun q => s.heap.size ≤ q) [nI 102, nI 111, nI 117, nI 114, nI 115] (by decide) (fun w h => hw w (kt_12 w h)) hA
  obtain ⟨a13, v13, e13, p13, c13, w13, t13⟩ := lw_txt (A := fun q => s.heap.size ≤ q) [nI 102, nI 97, nI 114] (by decide) (fun w h => hw w (kt_13 w h)) hA
  obtain ⟨a14, v14, e14, p14, c14, w14, t14⟩ := lw_txt (A := fun q => s.heap.size ≤ q) [nI 112, nI 97, nI 105, nI 114, nI 115] (by decide) (fun w h => hw w (kt_14 w h)) hA
  obtain ⟨a15, v15, e15, p15, c15, w15, t15⟩ := lw_txt (A := fun q => s.heap.size ≤ q) [nI 102, nI 101, nI 97, nI 115, nI 116] (by decide) (fun w h => hw w (kt_15 w h)) hA
  obtain ⟨a16, v16, e16, p16, c16, w16, t16⟩ := lw_txt (A := fun q => s.heap.size ≤ q) [nI 99, nI 111, nI 108, nI 111, nI 117, nI 114, nI 115] (by decide) (fun w h => hw w (kt_16 w h)) hA
  obtain ⟨a17, v17, e17, p17, c17, w17, t17⟩ := lw_txt (A := fun q => s.heap.size ≤ q) [nI 104, nI 97, nI 108, nI 118, nI 101, nI 115] (by decide) (fun w h => hw w (kt_17 w h)) hA
  obtain ⟨r0, f0, g0⟩ := lw_row (A := fun q => s.heap.size ≤ q) [nI 1, nI 1, nI 2, nI 3, nI 7, nI 14] (by decide) (fun w h => hw w (kr_0 w h)) hA
  obtain ⟨r1, f1, g1⟩ := lw_row (A := fun q => s.heap.size ≤ q) [nI 1, nI 1, nI 2, nI 3, nI 6, nI 11] (by decide) (fun w h => hw w (kr_1 w h)) hA
  obtain ⟨r2, f2, g2⟩ := lw_row (A := fun q => s.heap.size ≤ q) [nI 0, nI 0, nI 1, nI 2, nI 4, nI 6, nI 9] (by decide) (fun w h => hw w (kr_2 w h)) hA
  obtain ⟨r3, f3, g3⟩ := lw_row (A := fun q => s.heap.size ≤ q) [nI 0, nI 0, nI 1, nI 2, nI 3, nI 5, nI 6] (by decide) (fun w h => hw w (kr_3 w h)) hA
  obtain ⟨z, oz, hz⟩ : ∃ (z : Nat) (oz : Option Nat), va_Z "jdk/internal/util/Preconditions" "SIOOBE_FORMATTER" "Ljava/util/function/BiFunction;" (va_rf (oz.map (fun _ => z))) (fun q => s.heap.size ≤ q) s s.heap := by
    rcases va_Zqof (A := fun q => s.heap.size ≤ q) (hts _ (pn_at_in (p := 2232) rfl)) (hts _ (pn_at_in (p := 1018) rfl)) (hw _ kq_1) hA with h | ⟨t, h⟩
    · exact ⟨0, none, h⟩
    · exact ⟨t, some 3000, h⟩
  refine ⟨fun k => if k = 1000 then a0 else if k = 1100 then v0 else if k = 1001 then a1 else if k = 1101 then v1 else if k = 1002 then a2 else if k = 1102 then v2 else if k = 1003 then a3 else if k = 1103 then v3 else if k = 1004 then a4 else if k = 1104 then v4 else if k = 1005 then a5 else if k = 1105 then v5 else if k = 1006 then a6 else if k = 1106 then v6 else if k = 1007 then a7 else if k = 1107 then v7 else if k = 1008 then a8 else if k = 1108 then v8 else if k = 1009 then a9 else if k = 1109 then v9 else if k = 1010 then a10 else if k = 1110 then v10 else if k = 1011 then a11 else if k = 1111 then v11 else if k = 1012 then a12 else if k = 1112 then v12 else if k = 1013 then a13 else if k = 1113 then v13 else if k = 1014 then a14 else if k = 1114 then v14 else if k = 1015 then a15 else if k = 1115 then v15 else if k = 1016 then a16 else if k = 1116 then v16 else if k = 1017 then a17 else if k = 1117 then v17 else if k = 2000 then r0 else if k = 2001 then r1 else if k = 2002 then r2 else if k = 2003 then r3 else z, fun ad had => ?_⟩
  have h1000 : ad 1000 = a0 := had 1000 (by omega)
  have h1100 : ad 1100 = v0 := had 1100 (by omega)
  have h1001 : ad 1001 = a1 := had 1001 (by omega)
  have h1101 : ad 1101 = v1 := had 1101 (by omega)
  have h1002 : ad 1002 = a2 := had 1002 (by omega)
  have h1102 : ad 1102 = v2 := had 1102 (by omega)
  have h1003 : ad 1003 = a3 := had 1003 (by omega)
  have h1103 : ad 1103 = v3 := had 1103 (by omega)
  have h1004 : ad 1004 = a4 := had 1004 (by omega)
  have h1104 : ad 1104 = v4 := had 1104 (by omega)
  have h1005 : ad 1005 = a5 := had 1005 (by omega)
  have h1105 : ad 1105 = v5 := had 1105 (by omega)
  have h1006 : ad 1006 = a6 := had 1006 (by omega)
  have h1106 : ad 1106 = v6 := had 1106 (by omega)
  have h1007 : ad 1007 = a7 := had 1007 (by omega)
  have h1107 : ad 1107 = v7 := had 1107 (by omega)
  have h1008 : ad 1008 = a8 := had 1008 (by omega)
  have h1108 : ad 1108 = v8 := had 1108 (by omega)
  have h1009 : ad 1009 = a9 := had 1009 (by omega)
  have h1109 : ad 1109 = v9 := had 1109 (by omega)
  have h1010 : ad 1010 = a10 := had 1010 (by omega)
  have h1110 : ad 1110 = v10 := had 1110 (by omega)
  have h1011 : ad 1011 = a11 := had 1011 (by omega)
  have h1111 : ad 1111 = v11 := had 1111 (by omega)
  have h1012 : ad 1012 = a12 := had 1012 (by omega)
  have h1112 : ad 1112 = v12 := had 1112 (by omega)
  have h1013 : ad 1013 = a13 := had 1013 (by omega)
  have h1113 : ad 1113 = v13 := had 1113 (by omega)
  have h1014 : ad 1014 = a14 := had 1014 (by omega)
  have h1114 : ad 1114 = v14 := had 1114 (by omega)
  have h1015 : ad 1015 = a15 := had 1015 (by omega)
  have h1115 : ad 1115 = v15 := had 1115 (by omega)
  have h1016 : ad 1016 = a16 := had 1016 (by omega)
  have h1116 : ad 1116 = v16 := had 1116 (by omega)
  have h1017 : ad 1017 = a17 := had 1017 (by omega)
  have h1117 : ad 1117 = v17 := had 1117 (by omega)
  have h2000 : ad 2000 = r0 := had 2000 (by omega)
  have h2001 : ad 2001 = r1 := had 2001 (by omega)
  have h2002 : ad 2002 = r2 := had 2002 (by omega)
  have h2003 : ad 2003 = r3 := had 2003 (by omega)
  have h3000 : ad 3000 = z := had 3000 (by omega)
  refine ⟨fun i hi => ?_, fun q hq t n hqt => ?_, fun q hq => ?_, fun q hq => ?_, oz.map (fun _ => 3000), ?_⟩
  · rcases (by simp only [pn_NS] at hi; omega : i = 0 ∨ i = 1 ∨ i = 2 ∨ i = 3 ∨ i = 4 ∨ i = 5 ∨ i = 6 ∨ i = 7 ∨ i = 8 ∨ i = 9 ∨ i = 10 ∨ i = 11 ∨ i = 12 ∨ i = 13 ∨ i = 14 ∨ i = 15 ∨ i = 16 ∨ i = 17) with rfl | rfl | rfl | rfl | rfl | rfl | rfl | rfl | rfl | rfl | rfl | rfl | rfl | rfl | rfl | rfl | rfl | rfl
    · exact ⟨by rw [h1000]; exact p0, by rw [h1000]; exact c0, by rw [h1100, h1000]; exact w0⟩
    · exact ⟨by rw [h1001]; exact p1, by rw [h1001]; exact c1, by rw [h1101, h1001]; exact w1⟩
    · exact ⟨by rw [h1002]; exact p2, by rw [h1002]; exact c2, by rw [h1102, h1002]; exact w2⟩
    · exact ⟨by rw [h1003]; exact p3, by rw [h1003]; exact c3, by rw [h1103, h1003]; exact w3⟩
    · exact ⟨by rw [h1004]; exact p4, by rw [h1004]; exact c4, by rw [h1104, h1004]; exact w4⟩
    · exact ⟨by rw [h1005]; exact p5, by rw [h1005]; exact c5, by rw [h1105, h1005]; exact w5⟩
    · exact ⟨by rw [h1006]; exact p6, by rw [h1006]; exact c6, by rw [h1106, h1006]; exact w6⟩
    · exact ⟨by rw [h1007]; exact p7, by rw [h1007]; exact c7, by rw [h1107, h1007]; exact w7⟩
    · exact ⟨by rw [h1008]; exact p8, by rw [h1008]; exact c8, by rw [h1108, h1008]; exact w8⟩
    · exact ⟨by rw [h1009]; exact p9, by rw [h1009]; exact c9, by rw [h1109, h1009]; exact w9⟩
    · exact ⟨by rw [h1010]; exact p10, by rw [h1010]; exact c10, by rw [h1110, h1010]; exact w10⟩
    · exact ⟨by rw [h1011]; exact p11, by rw [h1011]; exact c11, by rw [h1111, h1011]; exact w11⟩
    · exact ⟨by rw [h1012]; exact p12, by rw [h1012]; exact c12, by rw [h1112, h1012]; exact w12⟩
    · exact ⟨by rw [h1013]; exact p13, by rw [h1013]; exact c13, by rw [h1113, h1013]; exact w13⟩
    · exact ⟨by rw [h1014]; exact p14, by rw [h1014]; exact c14, by rw [h1114, h1014]; exact w14⟩
    · exact ⟨by rw [h1015]; exact p15, by rw [h1015]; exact c15, by rw [h1115, h1015]; exact w15⟩
    · exact ⟨by rw [h1016]; exact p16, by rw [h1016]; exact c16, by rw [h1116, h1016]; exact w16⟩
    · exact ⟨by rw [h1017]; exact p17, by rw [h1017]; exact c17, by rw [h1117, h1017]; exact w17⟩
  · simp only [pn_xt, List.mem_cons, List.not_mem_nil, or_false] at hq
    rcases hq with rfl | rfl | rfl | rfl | rfl | rfl | rfl | rfl | rfl | rfl | rfl | rfl | rfl | rfl | rfl | rfl | rfl | rfl | rfl | rfl | rfl | rfl | rfl | rfl | rfl | rfl | rfl | rfl | rfl | rfl | rfl | rfl | rfl | rfl | rfl | rfl | rfl | rfl | rfl | rfl
    · cases hqt
    · cases hqt
    · cases hqt
    · cases hqt
    · cases hqt
    · cases hqt
    · cases hqt
    · cases hqt
    · cases hqt
    · cases hqt
    · cases hqt
    · cases hqt
    · cases hqt
    · cases hqt
    · cases hqt
    · cases hqt
    · cases hqt
    · cases hqt
    · cases hqt
      rw [if_pos rfl, h1100]; exact t0
    · cases hqt
      rw [if_pos rfl, h1101]; exact t1
    · cases hqt
      rw [if_pos rfl, h1102]; exact t2
    · cases hqt
      rw [if_pos rfl, h1103]; exact t3
    · cases hqt
      rw [if_pos rfl, h1104]; exact t4
    · cases hqt
      rw [if_pos rfl, h1105]; exact t5
    · cases hqt
      rw [if_pos rfl, h1106]; exact t6
    · cases hqt
      rw [if_pos rfl, h1107]; exact t7
    · cases hqt
      rw [if_pos rfl, h1108]; exact t8
    · cases hqt
      rw [if_pos rfl, h1109]; exact t9
    · cases hqt
      rw [if_pos rfl, h1110]; exact t10
    · cases hqt
      rw [if_pos rfl, h1111]; exact t11
    · cases hqt
      rw [if_pos rfl, h1112]; exact t12
    · cases hqt
      rw [if_pos rfl, h1113]; exact t13
    · cases hqt
      rw [if_pos rfl, h1114]; exact t14
    · cases hqt
      rw [if_pos rfl, h1115]; exact t15
    · cases hqt
      rw [if_pos rfl, h1116]; exact t16
    · cases hqt
      rw [if_pos rfl, h1117]; exact t17
    · cases hqt
      rw [if_neg (by decide), h2000]; exact g0
    · cases hqt
      rw [if_neg (by decide), h2001]; exact g1
    · cases hqt
      rw [if_neg (by decide), h2002]; exact g2
    · cases hqt
      rw [if_neg (by decide), h2003]; exact g3
  · simp only [pn_KS, List.mem_cons, List.not_mem_nil, or_false] at hq
    rcases hq with rfl | rfl | rfl | rfl | rfl | rfl | rfl | rfl | rfl | rfl | rfl | rfl | rfl | rfl | rfl | rfl | rfl | rfl
    · show vk_R "NoThreeModel" 85 " houses door ring rule or and not doors threes fours far pairs feast colours halves " (ad 1000) s
      rw [h1000]; exact vk_R.of (hts _ (pn_at_in (p := 7097) rfl)) e0
    · show vk_R "NoThreeModel" 123 ";:+-*()[]=<>" (ad 1001) s
      rw [h1001]; exact vk_R.of (hts _ (pn_at_in (p := 7103) rfl)) e1
    · show vk_R "NoThree$Reader" 108 ";:+-*()[]=<>" (ad 1002) s
      rw [h1002]; exact vk_R.of (hts _ (pn_at_in (p := 3033) rfl)) e2
    · show vk_R "NoThree$Reader" 115 "houses" (ad 1003) s
      rw [h1003]; exact vk_R.of (hts _ (pn_at_in (p := 2202) rfl)) e3
    · show vk_R "NoThree$Reader" 123 "doo\x72" (ad 1004) s
      rw [h1004]; exact vk_R.of (hts _ (pn_at_in (p := 3015) rfl)) e4
    · show vk_R "NoThree$Reader" 125 "ring" (ad 1005) s
      rw [h1005]; exact vk_R.of (hts _ (pn_at_in (p := 3016) rfl)) e5
    · show vk_R "NoThree$Reader" 127 "rule" (ad 1006) s
      rw [h1006]; exact vk_R.of (hts _ (pn_at_in (p := 3017) rfl)) e6
    · show vk_R "NoThree$Reader" 129 "not" (ad 1007) s
      rw [h1007]; exact vk_R.of (hts _ (pn_at_in (p := 3018) rfl)) e7
    · show vk_R "NoThree$Reader" 131 "and" (ad 1008) s
      rw [h1008]; exact vk_R.of (hts _ (pn_at_in (p := 3019) rfl)) e8
    · show vk_R "NoThree$Reader" 133 "o\x72" (ad 1009) s
      rw [h1009]; exact vk_R.of (hts _ (pn_at_in (p := 3020) rfl)) e9
    · show vk_R "NoThree$Reader" 138 "doors" (ad 1010) s
      rw [h1010]; exact vk_R.of (hts _ (pn_at_in (p := 3025) rfl)) e10
    · show vk_R "NoThree$Reader" 140 "threes" (ad 1011) s
      rw [h1011]; exact vk_R.of (hts _ (pn_at_in (p := 3026) rfl)) e11
    · show vk_R "NoThree$Reader" 142 "fours" (ad 1012) s
      rw [h1012]; exact vk_R.of (hts _ (pn_at_in (p := 3027) rfl)) e12
    · show vk_R "NoThree$Reader" 144 "fa\x72" (ad 1013) s
      rw [h1013]; exact vk_R.of (hts _ (pn_at_in (p := 3028) rfl)) e13
    · show vk_R "NoThree$Reader" 146 "pairs" (ad 1014) s
      rw [h1014]; exact vk_R.of (hts _ (pn_at_in (p := 3029) rfl)) e14
    · show vk_R "NoThree$Reader" 148 "feast" (ad 1015) s
      rw [h1015]; exact vk_R.of (hts _ (pn_at_in (p := 3030) rfl)) e15
    · show vk_R "NoThree$Reader" 150 "colours" (ad 1016) s
      rw [h1016]; exact vk_R.of (hts _ (pn_at_in (p := 3031) rfl)) e16
    · show vk_R "NoThree$Reader" 152 "halves" (ad 1017) s
      rw [h1017]; exact vk_R.of (hts _ (pn_at_in (p := 3032) rfl)) e17
  · simp only [pn_GS, List.mem_cons, List.not_mem_nil, or_false] at hq
    rcases hq with rfl | rfl | rfl | rfl | rfl
    · show va_Z "NoThree" "UNLIKE" "[I" (.ref (ad 2000)) _ s s.heap
      rw [h2000]; exact va_Zof (hts _ (pn_at_in (p := 6057) rfl)) (hts _ (pn_at_in (p := 1001) rfl)) f0 hA
    · show va_Z "NoThree" "UNLIKE_NO_FOURS" "[I" (.ref (ad 2001)) _ s s.heap
      rw [h2001]; exact va_Zof (hts _ (pn_at_in (p := 6059) rfl)) (hts _ (pn_at_in (p := 1001) rfl)) f1 hA
    · show va_Z "NoThree" "MOST_DOORS" "[I" (.ref (ad 2002)) _ s s.heap
      rw [h2002]; exact va_Zof (hts _ (pn_at_in (p := 6065) rfl)) (hts _ (pn_at_in (p := 1001) rfl)) f2 hA
    · show va_Z "NoThree" "MOST_DOORS_NO_FOURS" "[I" (.ref (ad 2003)) _ s s.heap
      rw [h2003]; exact va_Zof (hts _ (pn_at_in (p := 6067) rfl)) (hts _ (pn_at_in (p := 1001) rfl)) f3 hA
    · exact va_Zof (hts _ (pn_at_in (p := 2216) rfl)) (hts _ (pn_at_in (p := 1016) rfl)) (va_eqt (hw _ kq_0)) hA
  · cases oz with
    | none => exact hz
    | some w =>
      show va_Z _ _ _ (.ref (ad 3000)) _ s s.heap
      rw [h3000]; exact hz
