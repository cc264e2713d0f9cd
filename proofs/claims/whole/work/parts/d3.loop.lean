/-! the law's loop: printed by wip/whole/genloop.py -/
theorem lw_and (x : Int32) : ∃ k, k < 64 ∧ x &&& nI 63 = nI k := by
  refine ⟨bs (fun i => bt x i) 6, bs_2n (m := 6) _ (Nat.le_refl 6), ?_⟩
  apply b_ext
  intro i hi
  have h63 : ∀ i, i < 32 → bt (nI 63) i = decide (i < 6) := by decide +kernel
  rw [b_and, h63 i hi, bt_nI, bs_tb, decide_eq_true hi, Bool.true_and, Bool.and_comm]
set_option maxRecDepth 100000 in
theorem d_law_33 : decode code 33 = .ok (.tableswitch 1580 0 52 #[227, 290, 313, 336, 369, 402, 435, 458, 471, 504, 537, 570, 593, 616, 639, 652, 675, 708, 731, 754, 787, 810, 823, 836, 849, 862, 885, 898, 911, 934, 947, 970, 994, 1007, 1030, 1043, 1076, 1099, 1112, 1125, 1148, 1197, 1246, 1269, 1302, 1325, 1358, 1371, 1414, 1488, 1511, 1534, 1557], 227) := by decide +kernel
set_option maxHeartbeats 4000000 in
set_option maxRecDepth 100000 in
theorem law_loop {p : Program} {l : Launch} {e : Env} {s : State} {m : MethodId} {below : List Frame} {meth : Method} {c : Code} {D : va_G} {cy : Nat → ClassId} {ad : Nat → Nat} {b L : Nat} {xs : Nat → Int32} (hL : L ≤ 3072) (hX : va_X b L xs s s.heap) (hbl : b < s.heap.size) (hr : meth.sig.returnType = ret) (hlocks : meth.locks = false) (hF : lwF p s m #[Value.ref b] c D cy ad) {N M : Nat} (hNM : N ≤ 600000 ∧ M ≤ 7302250) :
    ∀ (n i : Nat) (σ : px_M), L + 1 ≤ i + n → i ≤ 3078 → ST σ σ → ∀ (H : Heap) (locs : List Loc) (la : Array Slot), va_P D pn_cl (px_w cy ad tT σ) H → va_S (fun q => s.heap.size ≤ q) s.heap H locs → lv_has la 4 [(3, .int (nI i)), (2, .ref (ad 0)), (1, .ref (ad 100)), (0, .ref b)] → W p l e room_1 s m #[Value.ref b] below meth c H locs N M (lw_Z below #[Value.ref b] s) (F0 m 18 la []) := by
  obtain ⟨⟨hx, hb, hml, hown, hts⟩, -⟩ := id hF
  have hbA : ¬ (fun q : Nat => s.heap.size ≤ q) b := Nat.not_le.mpr hbl
  have sx : (nI L - nI 6).toInt = (L : Int) - 6 := sub_ti (by omega) (by omega)
  intro n
  induction n with
  | zero =>
    intro i σ h1 h2 hST H locs la hP hS hl
    refine lv_iload_n hx hb (k := 3) (by decide +kernel) rfl (lv_at hl 0 rfl) ?_
    refine lv_aload_n hx hb (k := 0) (by decide +kernel) rfl (lv_at hl 3 rfl) ?_
    refine va_slen (A := fun q => s.heap.size ≤ q) hx hb hX hbl hbA hS (by decide +kernel) ?_
    refine lv_bipush (n := 6) (v := nI 6) hx hb (by decide +kernel) (by decide) ?_
    refine lv_isub hx hb (by decide +kernel) ?_
    refine lv_icmp_gt (off := 1595) (tgt := 1619) hx hb (by decide +kernel) (by decide) (fun _ => ?_) (fun h => ?_)
    · refine lv_iconst (n := 1) (v := 1) hx hb (by decide +kernel) (by decide) ?_
      refine va_forget (fun q hq => hS.2.2 q hq) ?_
      refine W.widen (k := 600000) (n := 7302250) hNM.1 hNM.2 ?_
      exact lw_ret hx hb hr hlocks (by decide +kernel)
    · refine absurd ?_ h
      show nI L - nI 6 < nI i
      rw [fa_lt, sx, nI_toInt (by omega)]
      omega
  | succ n ih =>
    intro i σ h1 h2 hST H locs la hP hS hl
    refine lv_iload_n hx hb (k := 3) (by decide +kernel) rfl (lv_at hl 0 rfl) ?_
    refine lv_aload_n hx hb (k := 0) (by decide +kernel) rfl (lv_at hl 3 rfl) ?_
    refine va_slen (A := fun q => s.heap.size ≤ q) hx hb hX hbl hbA hS (by decide +kernel) ?_
    refine lv_bipush (n := 6) (v := nI 6) hx hb (by decide +kernel) (by decide) ?_
    refine lv_isub hx hb (by decide +kernel) ?_
    refine lv_icmp_gt (off := 1595) (tgt := 1619) hx hb (by decide +kernel) (by decide) (fun _ => ?_) (fun h => ?_)
    · refine lv_iconst (n := 1) (v := 1) hx hb (by decide +kernel) (by decide) ?_
      refine va_forget (fun q hq => hS.2.2 q hq) ?_
      refine W.widen (k := 600000) (n := 7302250) hNM.1 hNM.2 ?_
      exact lw_ret hx hb hr hlocks (by decide +kernel)
    · have hi : i + 5 < L := by
        have h' : ¬ nI L - nI 6 < nI i := h
        rw [fa_lt, sx, nI_toInt (by omega)] at h'
        omega
      have hs : lwS s b L xs i la ad := ⟨⟨hX, hbl⟩, ⟨hi, hL⟩, hl⟩
      have kk : ∀ (σ2 : px_M) (H1 : Heap) (locs1 : List Loc), ST σ2 σ2 → va_P D pn_cl (px_w cy ad tT σ2) H1 → va_S (fun q => s.heap.size ≤ q) s.heap H1 locs1 → W p l e room_1 s m #[Value.ref b] below meth c H1 locs1 N M (lw_Z below #[Value.ref b] s) (F0 m 1613 la []) := fun σ2 H1 locs1 hST1 hP1 hS1 => by
        refine lv_iinc (i := 3) (n := 6) (v := nI (i + 6)) (lv' := [(3, .int (nI (i + 6))), (2, .ref (ad 0)), (1, .ref (ad 100)), (0, .ref b)]) hx hb (by decide +kernel) hl (k := 0) rfl (by show nI i + nI 6 = nI (i + 6); rw [nI_add]) (by decide) rfl (fun la hl => ?_)
        refine lv_goto (off := -1598) (tgt := 18) hx hb (by decide +kernel) (by decide) ?_
        exact ih (i + 6) σ2 (by omega) (by omega) hST1 H1 locs1 la hP1 hS1 hl
      refine lv_aload_n hx hb (k := 0) (by decide +kernel) rfl (lv_at hl 3 rfl) ?_
      refine lv_iload_n hx hb (k := 3) (by decide +kernel) rfl (lv_at hl 0 rfl) ?_
      refine va_sld (A := fun q => s.heap.size ≤ q) hx hb hX hbl hbA hS (vp_in_nI (by omega) (by omega)) (by decide +kernel) ?_
      refine lv_bipush (n := 63) (v := nI 63) hx hb (by decide +kernel) (by decide) ?_
      refine lv_iand hx hb (by decide +kernel) ?_
      obtain ⟨k, hk, ek⟩ := lw_and (xs (nI i).toNatClampNeg)
      rw [ek]
      by_cases h52 : 52 < k
      · refine lv_tableOut (tgt := 1613) hx hb d_law_33 (Or.inr (by rw [nI_toInt (by omega)]; omega)) (by decide) ?_
        exact kk σ H locs hST hP hS
      · have tin : ∀ (off : Int) (tgt : Nat), ((#[227, 290, 313, 336, 369, 402, 435, 458, 471, 504, 537, 570, 593, 616, 639, 652, 675, 708, 731, 754, 787, 810, 823, 836, 849, 862, 885, 898, 911, 934, 947, 970, 994, 1007, 1030, 1043, 1076, 1099, 1112, 1125, 1148, 1197, 1246, 1269, 1302, 1325, 1358, 1371, 1414, 1488, 1511, 1534, 1557] : Array Int))[k]? = some off → (33 : Int) + off = (tgt : Int) → W p l e room_1 s m #[Value.ref b] below meth c H locs N M (lw_Z below #[Value.ref b] s) (F0 m tgt la []) → W p l e room_1 s m #[Value.ref b] below meth c H locs N M (lw_Z below #[Value.ref b] s) (F0 m 33 la [.int (nI k)]) := fun off tgt ho ht hW => lv_tableIn (off := off) (tgt := tgt) hx hb d_law_33 (by rw [nI_toInt (by omega)]; omega) (by rw [nI_toInt (by omega)]; omega) (by rw [nI_toInt (by omega)]; simpa using ho) ht hW
        rcases (by omega : k = 0 ∨ k = 1 ∨ k = 2 ∨ k = 3 ∨ k = 4 ∨ k = 5 ∨ k = 6 ∨ k = 7 ∨ k = 8 ∨ k = 9 ∨ k = 10 ∨ k = 11 ∨ k = 12 ∨ k = 13 ∨ k = 14 ∨ k = 15 ∨ k = 16 ∨ k = 17 ∨ k = 18 ∨ k = 19 ∨ k = 20 ∨ k = 21 ∨ k = 22 ∨ k = 23 ∨ k = 24 ∨ k = 25 ∨ k = 26 ∨ k = 27 ∨ k = 28 ∨ k = 29 ∨ k = 30 ∨ k = 31 ∨ k = 32 ∨ k = 33 ∨ k = 34 ∨ k = 35 ∨ k = 36 ∨ k = 37 ∨ k = 38 ∨ k = 39 ∨ k = 40 ∨ k = 41 ∨ k = 42 ∨ k = 43 ∨ k = 44 ∨ k = 45 ∨ k = 46 ∨ k = 47 ∨ k = 48 ∨ k = 49 ∨ k = 50 ∨ k = 51 ∨ k = 52) with rfl | rfl | rfl | rfl | rfl | rfl | rfl | rfl | rfl | rfl | rfl | rfl | rfl | rfl | rfl | rfl | rfl | rfl | rfl | rfl | rfl | rfl | rfl | rfl | rfl | rfl | rfl | rfl | rfl | rfl | rfl | rfl | rfl | rfl | rfl | rfl | rfl | rfl | rfl | rfl | rfl | rfl | rfl | rfl | rfl | rfl | rfl | rfl | rfl | rfl | rfl | rfl | rfl
        · exact tin 227 260 rfl (by decide) (lc_0 hF hs hNM hST hP hS kk)
        · exact tin 290 323 rfl (by decide) (lc_1 hF hs hNM hST hP hS kk)
        · exact tin 313 346 rfl (by decide) (lc_2 hF hs hNM hST hP hS kk)
        · exact tin 336 369 rfl (by decide) (lc_3 hF hs hNM hST hP hS kk)
        · exact tin 369 402 rfl (by decide) (lc_4 hF hs hNM hST hP hS kk)
        · exact tin 402 435 rfl (by decide) (lc_5 hF hs hNM hST hP hS kk)
        · exact tin 435 468 rfl (by decide) (lc_6 hF hs hNM hST hP hS kk)
        · exact tin 458 491 rfl (by decide) (lc_7 hF hs hNM hST hP hS kk)
        · exact tin 471 504 rfl (by decide) (lc_8 hF hs hNM hST hP hS kk)
        · exact tin 504 537 rfl (by decide) (lc_9 hF hs hNM hST hP hS kk)
        · exact tin 537 570 rfl (by decide) (lc_10 hF hs hNM hST hP hS kk)
        · exact tin 570 603 rfl (by decide) (lc_11 hF hs hNM hST hP hS kk)
        · exact tin 593 626 rfl (by decide) (lc_12 hF hs hNM hST hP hS kk)
        · exact tin 616 649 rfl (by decide) (lc_13 hF hs hNM hST hP hS kk)
        · exact tin 639 672 rfl (by decide) (lc_14 hF hs hNM hST hP hS kk)
        · exact tin 652 685 rfl (by decide) (lc_15 hF hs hNM hST hP hS kk)
        · exact tin 675 708 rfl (by decide) (lc_16 hF hs hNM hST hP hS kk)
        · exact tin 708 741 rfl (by decide) (lc_17 hF hs hNM hST hP hS kk)
        · exact tin 731 764 rfl (by decide) (lc_18 hF hs hNM hST hP hS kk)
        · exact tin 754 787 rfl (by decide) (lc_19 hF hs hNM hST hP hS kk)
        · exact tin 787 820 rfl (by decide) (lc_20 hF hs hNM hST hP hS kk)
        · exact tin 810 843 rfl (by decide) (lc_21 hF hs hNM hST hP hS kk)
        · exact tin 823 856 rfl (by decide) (lc_22 hF hs hNM hST hP hS kk)
        · exact tin 836 869 rfl (by decide) (lc_23 hF hs hNM hST hP hS kk)
        · exact tin 849 882 rfl (by decide) (lc_24 hF hs hNM hST hP hS kk)
        · exact tin 862 895 rfl (by decide) (lc_25 hF hs hNM hST hP hS kk)
        · exact tin 885 918 rfl (by decide) (lc_26 hF hs hNM hST hP hS kk)
        · exact tin 898 931 rfl (by decide) (lc_27 hF hs hNM hST hP hS kk)
        · exact tin 911 944 rfl (by decide) (lc_28 hF hs hNM hST hP hS kk)
        · exact tin 934 967 rfl (by decide) (lc_29 hF hs hNM hST hP hS kk)
        · exact tin 947 980 rfl (by decide) (lc_30 hF hs hNM hST hP hS kk)
        · exact tin 970 1003 rfl (by decide) (lc_31 hF hs hNM hST hP hS kk)
        · exact tin 994 1027 rfl (by decide) (lc_32 hF hs hNM hST hP hS kk)
        · exact tin 1007 1040 rfl (by decide) (lc_33 hF hs hNM hST hP hS kk)
        · exact tin 1030 1063 rfl (by decide) (lc_34 hF hs hNM hST hP hS kk)
        · exact tin 1043 1076 rfl (by decide) (lc_35 hF hs hNM hST hP hS kk)
        · exact tin 1076 1109 rfl (by decide) (lc_36 hF hs hNM hST hP hS kk)
        · exact tin 1099 1132 rfl (by decide) (lc_37 hF hs hNM hST hP hS kk)
        · exact tin 1112 1145 rfl (by decide) (lc_38 hF hs hNM hST hP hS kk)
        · exact tin 1125 1158 rfl (by decide) (lc_39 hF hs hNM hST hP hS kk)
        · exact tin 1148 1181 rfl (by decide) (lc_40 hF hs hNM hST hP hS kk)
        · exact tin 1197 1230 rfl (by decide) (lc_41 hF hs hNM hST hP hS kk)
        · exact tin 1246 1279 rfl (by decide) (lc_42 hF hs hNM hST hP hS kk)
        · exact tin 1269 1302 rfl (by decide) (lc_43 hF hs hNM hST hP hS kk)
        · exact tin 1302 1335 rfl (by decide) (lc_44 hF hs hNM hST hP hS kk)
        · exact tin 1325 1358 rfl (by decide) (lc_45 hF hs hNM hST hP hS kk)
        · exact tin 1358 1391 rfl (by decide) (lc_46 hF hs hNM hST hP hS kk)
        · exact tin 1371 1404 rfl (by decide) (lc_47 hF hs hNM hST hP hS kk)
        · exact tin 1414 1447 rfl (by decide) (lc_48 hF hs hNM hST hP hS kk)
        · exact tin 1488 1521 rfl (by decide) (lc_49 hF hs hNM hST hP hS kk)
        · exact tin 1511 1544 rfl (by decide) (lc_50 hF hs hNM hST hP hS kk)
        · exact tin 1534 1567 rfl (by decide) (lc_51 hF hs hNM hST hP hS kk)
        · exact tin 1557 1590 rfl (by decide) (lc_52 hF hs hNM hST hP hS kk)
