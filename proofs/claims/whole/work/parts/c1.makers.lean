/-! the makers: printed by wip/whole/gencon.py -/
def mkF_11 (cy : Nat → ClassId) (f : Nat → Nat) : va_W := ([(f 0, .inr (11, [.int (nI 0), .ref (f 1)]))] ++ [((f 1), .inl (cy 0, kza 0 11))])
set_option maxHeartbeats 4000000 in
set_option maxRecDepth 100000 in
theorem kM_11 : kM pn_i11001 11 1 1 11 mkF_11 := by
  refine kx_enter (by decide +kernel) rfl rfl rfl (by decide) (fun C a la hC hin hl hret => ?_)
  refine kx_al hC hl 0 (k := 0) rfl rfl (by decide +kernel) ?_
  refine kx_obj hC (px_gw (p := 1041) rfl rfl) (px_gw (p := 1028) rfl rfl) (px_gw (p := 1029) rfl rfl) hl.1 (by omega) (by decide +kernel) ?_
  show kW C 0 0 4 la [] [(a, .inr (11, [.int 0, .null]))]
  refine kx_al hC hl 0 (k := 0) rfl rfl (by decide +kernel) ?_
  refine kx_int hC (v := nI 0) (by decide +kernel) (Or.inl ⟨0, rfl, rfl, by decide⟩) ?_
  refine kx_put hC hin (ci := 11) (b := 0) (q0 := 0) (px_gw (p := 1042) rfl rfl) (by decide) (by decide +kernel) (by decide) rfl rfl rfl (Nat.le_of_ble_eq_true rfl) (by decide +kernel) ?_
  show kW C 0 0 9 la [] [(a, .inr (11, [.int (nI 0), .null]))]
  refine kx_al hC hl 0 (k := 0) rfl rfl (by decide +kernel) ?_
  refine kx_int hC (v := nI 11) (by decide +kernel) (Or.inr (Or.inl ⟨11, rfl, rfl, by decide⟩)) ?_
  refine kx_newa hC (t := 0) (at0 := .int) (Or.inl ⟨rfl, rfl⟩) (px_gw (p := 1063) rfl rfl) (by omega) (Nat.le_of_ble_eq_true rfl) (Nat.le_of_ble_eq_true rfl) (by decide +kernel) (fun q1 => ?_)
  show kW C 1 11 14 la [.ref q1, .ref a] ([(a, .inr (11, [.int (nI 0), .null]))] ++ [(q1, .inl (kcy C 0, kza 0 11))])
  refine kx_put hC hin (ci := 11) (b := 1) (q0 := 0) (px_gw (p := 1053) rfl rfl) (by decide) (by decide +kernel) (by decide) rfl rfl rfl (Nat.le_of_ble_eq_true rfl) (by decide +kernel) ?_
  show kW C 1 11 17 la [] ([(a, .inr (11, [.int (nI 0), .ref q1]))] ++ [(q1, .inl (kcy C 0, kza 0 11))])
  exact hret 17 la (fun k => if k = 0 then a else q1) (by decide +kernel) rfl
def mkF_10 (cy : Nat → ClassId) (f : Nat → Nat) : va_W := ((([(f 0, .inr (10, [.int (nI 0), .ref (f 1), .ref (f 2), .ref (f 3), .int (nI 0)]))] ++ [((f 1), .inl (cy 0, kza 0 7))]) ++ [((f 2), .inl (cy 0, kza 0 6))]) ++ [((f 3), .inl (cy 0, kza 0 900))])
set_option maxHeartbeats 4000000 in
set_option maxRecDepth 100000 in
theorem kM_10 : kM pn_i10001 10 1 3 913 mkF_10 := by
  refine kx_enter (by decide +kernel) rfl rfl rfl (by decide) (fun C a la hC hin hl hret => ?_)
  refine kx_al hC hl 0 (k := 0) rfl rfl (by decide +kernel) ?_
  refine kx_obj hC (px_gw (p := 1069) rfl rfl) (px_gw (p := 1028) rfl rfl) (px_gw (p := 1029) rfl rfl) hl.1 (by omega) (by decide +kernel) ?_
  show kW C 0 0 4 la [] [(a, .inr (10, [.int 0, .null, .null, .null, .int 0]))]
  refine kx_al hC hl 0 (k := 0) rfl rfl (by decide +kernel) ?_
  refine kx_int hC (v := nI 0) (by decide +kernel) (Or.inl ⟨0, rfl, rfl, by decide⟩) ?_
  refine kx_put hC hin (ci := 10) (b := 0) (q0 := 0) (px_gw (p := 1070) rfl rfl) (by decide) (by decide +kernel) (by decide) rfl rfl rfl (Nat.le_of_ble_eq_true rfl) (by decide +kernel) ?_
  show kW C 0 0 9 la [] [(a, .inr (10, [.int (nI 0), .null, .null, .null, .int 0]))]
  refine kx_al hC hl 0 (k := 0) rfl rfl (by decide +kernel) ?_
  refine kx_int hC (v := nI 7) (by decide +kernel) (Or.inr (Or.inl ⟨7, rfl, rfl, by decide⟩)) ?_
  refine kx_newa hC (t := 0) (at0 := .int) (Or.inl ⟨rfl, rfl⟩) (px_gw (p := 1063) rfl rfl) (by omega) (Nat.le_of_ble_eq_true rfl) (Nat.le_of_ble_eq_true rfl) (by decide +kernel) (fun q1 => ?_)
  show kW C 1 7 14 la [.ref q1, .ref a] ([(a, .inr (10, [.int (nI 0), .null, .null, .null, .int 0]))] ++ [(q1, .inl (kcy C 0, kza 0 7))])
  refine kx_put hC hin (ci := 10) (b := 1) (q0 := 0) (px_gw (p := 1074) rfl rfl) (by decide) (by decide +kernel) (by decide) rfl rfl rfl (Nat.le_of_ble_eq_true rfl) (by decide +kernel) ?_
  show kW C 1 7 17 la [] ([(a, .inr (10, [.int (nI 0), .ref q1, .null, .null, .int 0]))] ++ [(q1, .inl (kcy C 0, kza 0 7))])
  refine kx_al hC hl 0 (k := 0) rfl rfl (by decide +kernel) ?_
  refine kx_int hC (v := nI 6) (by decide +kernel) (Or.inr (Or.inl ⟨6, rfl, rfl, by decide⟩)) ?_
  refine kx_newa hC (t := 0) (at0 := .int) (Or.inl ⟨rfl, rfl⟩) (px_gw (p := 1063) rfl rfl) (by omega) (Nat.le_of_ble_eq_true rfl) (Nat.le_of_ble_eq_true rfl) (by decide +kernel) (fun q2 => ?_)
  show kW C 2 13 22 la [.ref q2, .ref a] (([(a, .inr (10, [.int (nI 0), .ref q1, .null, .null, .int 0]))] ++ [(q1, .inl (kcy C 0, kza 0 7))]) ++ [(q2, .inl (kcy C 0, kza 0 6))])
  refine kx_put hC hin (ci := 10) (b := 2) (q0 := 0) (px_gw (p := 1076) rfl rfl) (by decide) (by decide +kernel) (by decide) rfl rfl rfl (Nat.le_of_ble_eq_true rfl) (by decide +kernel) ?_
  show kW C 2 13 25 la [] (([(a, .inr (10, [.int (nI 0), .ref q1, .ref q2, .null, .int 0]))] ++ [(q1, .inl (kcy C 0, kza 0 7))]) ++ [(q2, .inl (kcy C 0, kza 0 6))])
  refine kx_al hC hl 0 (k := 0) rfl rfl (by decide +kernel) ?_
  refine kx_int hC (v := nI 900) (by decide +kernel) (Or.inr (Or.inr ⟨900, rfl, rfl, by decide⟩)) ?_
  refine kx_newa hC (t := 0) (at0 := .int) (Or.inl ⟨rfl, rfl⟩) (px_gw (p := 1063) rfl rfl) (by omega) (Nat.le_of_ble_eq_true rfl) (Nat.le_of_ble_eq_true rfl) (by decide +kernel) (fun q3 => ?_)
  show kW C 3 913 31 la [.ref q3, .ref a] ((([(a, .inr (10, [.int (nI 0), .ref q1, .ref q2, .null, .int 0]))] ++ [(q1, .inl (kcy C 0, kza 0 7))]) ++ [(q2, .inl (kcy C 0, kza 0 6))]) ++ [(q3, .inl (kcy C 0, kza 0 900))])
  refine kx_put hC hin (ci := 10) (b := 3) (q0 := 0) (px_gw (p := 1078) rfl rfl) (by decide) (by decide +kernel) (by decide) rfl rfl rfl (Nat.le_of_ble_eq_true rfl) (by decide +kernel) ?_
  show kW C 3 913 34 la [] ((([(a, .inr (10, [.int (nI 0), .ref q1, .ref q2, .ref q3, .int 0]))] ++ [(q1, .inl (kcy C 0, kza 0 7))]) ++ [(q2, .inl (kcy C 0, kza 0 6))]) ++ [(q3, .inl (kcy C 0, kza 0 900))])
  refine kx_al hC hl 0 (k := 0) rfl rfl (by decide +kernel) ?_
  refine kx_int hC (v := nI 0) (by decide +kernel) (Or.inl ⟨0, rfl, rfl, by decide⟩) ?_
  refine kx_put hC hin (ci := 10) (b := 4) (q0 := 0) (px_gw (p := 1080) rfl rfl) (by decide) (by decide +kernel) (by decide) rfl rfl rfl (Nat.le_of_ble_eq_true rfl) (by decide +kernel) ?_
  show kW C 3 913 39 la [] ((([(a, .inr (10, [.int (nI 0), .ref q1, .ref q2, .ref q3, .int (nI 0)]))] ++ [(q1, .inl (kcy C 0, kza 0 7))]) ++ [(q2, .inl (kcy C 0, kza 0 6))]) ++ [(q3, .inl (kcy C 0, kza 0 900))])
  exact hret 39 la (fun k => if k = 0 then a else if k < 2 then q1 else if k < 3 then q2 else q3) (by decide +kernel) rfl
def mkF_3 (cy : Nat → ClassId) (f : Nat → Nat) : va_W := ([(f 0, .inr (3, [.ref (f 1), .int (nI 0)]))] ++ [((f 1), .inl (cy 0, kza 0 2048))])
set_option maxHeartbeats 4000000 in
set_option maxRecDepth 100000 in
theorem kM_3 : kM pn_i3001 3 1 1 2048 mkF_3 := by
  refine kx_enter (by decide +kernel) rfl rfl rfl (by decide) (fun C a la hC hin hl hret => ?_)
  refine kx_al hC hl 0 (k := 0) rfl rfl (by decide +kernel) ?_
  refine kx_obj hC (px_gw (p := 1168) rfl rfl) (px_gw (p := 1028) rfl rfl) (px_gw (p := 1029) rfl rfl) hl.1 (by omega) (by decide +kernel) ?_
  show kW C 0 0 4 la [] [(a, .inr (3, [.null, .int 0]))]
  refine kx_al hC hl 0 (k := 0) rfl rfl (by decide +kernel) ?_
  refine kx_int hC (v := nI 2048) (by decide +kernel) (Or.inr (Or.inr ⟨2048, rfl, rfl, by decide⟩)) ?_
  refine kx_newa hC (t := 0) (at0 := .int) (Or.inl ⟨rfl, rfl⟩) (px_gw (p := 1063) rfl rfl) (by omega) (Nat.le_of_ble_eq_true rfl) (Nat.le_of_ble_eq_true rfl) (by decide +kernel) (fun q1 => ?_)
  show kW C 1 2048 10 la [.ref q1, .ref a] ([(a, .inr (3, [.null, .int 0]))] ++ [(q1, .inl (kcy C 0, kza 0 2048))])
  refine kx_put hC hin (ci := 3) (b := 0) (q0 := 0) (px_gw (p := 1169) rfl rfl) (by decide) (by decide +kernel) (by decide) rfl rfl rfl (Nat.le_of_ble_eq_true rfl) (by decide +kernel) ?_
  show kW C 1 2048 13 la [] ([(a, .inr (3, [.ref q1, .int 0]))] ++ [(q1, .inl (kcy C 0, kza 0 2048))])
  refine kx_al hC hl 0 (k := 0) rfl rfl (by decide +kernel) ?_
  refine kx_int hC (v := nI 0) (by decide +kernel) (Or.inl ⟨0, rfl, rfl, by decide⟩) ?_
  refine kx_put hC hin (ci := 3) (b := 1) (q0 := 0) (px_gw (p := 1170) rfl rfl) (by decide) (by decide +kernel) (by decide) rfl rfl rfl (Nat.le_of_ble_eq_true rfl) (by decide +kernel) ?_
  show kW C 1 2048 18 la [] ([(a, .inr (3, [.ref q1, .int (nI 0)]))] ++ [(q1, .inl (kcy C 0, kza 0 2048))])
  exact hret 18 la (fun k => if k = 0 then a else q1) (by decide +kernel) rfl
def mkF_1 (cy : Nat → ClassId) (f : Nat → Nat) : va_W := ((([(f 0, .inr (1, [.ref (f 1), .ref (f 3), .int (nI 0), .int (nI 0), .int (nI 0), .ref (f 7)]))] ++ mkF_11 cy (fun k => f (1 + k))) ++ mkF_10 cy (fun k => f (3 + k))) ++ [((f 7), .inl (cy 0, kza 0 144))])
set_option maxHeartbeats 4000000 in
set_option maxRecDepth 100000 in
theorem kM_1 : kM pn_i1001 1 2 7 1075 mkF_1 := by
  refine kx_enter (by decide +kernel) rfl rfl rfl (by decide) (fun C a la hC hin hl hret => ?_)
  refine kx_al hC hl 0 (k := 0) rfl rfl (by decide +kernel) ?_
  refine kx_obj hC (px_gw (p := 1035) rfl rfl) (px_gw (p := 1028) rfl rfl) (px_gw (p := 1029) rfl rfl) hl.1 (by omega) (by decide +kernel) ?_
  show kW C 0 0 4 la [] [(a, .inr (1, [.null, .null, .int 0, .int 0, .int 0, .null]))]
  refine kx_al hC hl 0 (k := 0) rfl rfl (by decide +kernel) ?_
  refine kx_new hC (ci := 11) (by decide) rfl (px_gw (p := 1036) rfl rfl) (px_gw (p := 1037) rfl rfl) (px_gw (p := 1003) rfl rfl) (by decide +kernel) (Nat.le_of_ble_eq_true rfl) (Nat.le_of_ble_eq_true rfl) (by decide +kernel) (fun q1 => ?_)
  show kW C 1 2 8 la [.ref q1, .ref a] ([(a, .inr (1, [.null, .null, .int 0, .int 0, .int 0, .null]))] ++ [(q1, .inr (11, kz 11))])
  refine kx_dup hC (by decide +kernel) rfl ?_
  refine kx_call hC kM_11 rfl rfl (px_gw (p := 1040) rfl rfl) (px_gw (p := 1003) rfl rfl) (px_gw (p := 1039) rfl rfl) (px_gw (p := 1038) rfl rfl) (by decide +kernel) rfl (by omega) (Nat.le_of_ble_eq_true rfl) (Nat.le_of_ble_eq_true rfl) hl.1 (Nat.le_of_ble_eq_true rfl) (by decide +kernel) (fun f1 e1 => ?_)
  subst e1
  show kW C 2 13 12 la [.ref (f1 0), .ref a] ([(a, .inr (1, [.null, .null, .int 0, .int 0, .int 0, .null]))] ++ mkF_11 (kcy C) f1)
  refine kx_put hC hin (ci := 1) (b := 0) (q0 := 0) (px_gw (p := 1092) rfl rfl) (by decide) (by decide +kernel) (by decide) rfl rfl rfl (Nat.le_of_ble_eq_true rfl) (by decide +kernel) ?_
  show kW C 2 13 15 la [] ([(a, .inr (1, [.ref (f1 0), .null, .int 0, .int 0, .int 0, .null]))] ++ mkF_11 (kcy C) f1)
  refine kx_al hC hl 0 (k := 0) rfl rfl (by decide +kernel) ?_
  refine kx_new hC (ci := 10) (by decide) rfl (px_gw (p := 1064) rfl rfl) (px_gw (p := 1065) rfl rfl) (px_gw (p := 1004) rfl rfl) (by decide +kernel) (Nat.le_of_ble_eq_true rfl) (Nat.le_of_ble_eq_true rfl) (by decide +kernel) (fun q2 => ?_)
  show kW C 3 18 19 la [.ref q2, .ref a] (([(a, .inr (1, [.ref (f1 0), .null, .int 0, .int 0, .int 0, .null]))] ++ mkF_11 (kcy C) f1) ++ [(q2, .inr (10, kz 10))])
  refine kx_dup hC (by decide +kernel) rfl ?_
  refine kx_call hC kM_10 rfl rfl (px_gw (p := 1068) rfl rfl) (px_gw (p := 1004) rfl rfl) (px_gw (p := 1067) rfl rfl) (px_gw (p := 1066) rfl rfl) (by decide +kernel) rfl (by omega) (Nat.le_of_ble_eq_true rfl) (Nat.le_of_ble_eq_true rfl) hl.1 (Nat.le_of_ble_eq_true rfl) (by decide +kernel) (fun f2 e2 => ?_)
  subst e2
  show kW C 6 931 23 la [.ref (f2 0), .ref a] (([(a, .inr (1, [.ref (f1 0), .null, .int 0, .int 0, .int 0, .null]))] ++ mkF_11 (kcy C) f1) ++ mkF_10 (kcy C) f2)
  refine kx_put hC hin (ci := 1) (b := 1) (q0 := 0) (px_gw (p := 1095) rfl rfl) (by decide) (by decide +kernel) (by decide) rfl rfl rfl (Nat.le_of_ble_eq_true rfl) (by decide +kernel) ?_
  show kW C 6 931 26 la [] (([(a, .inr (1, [.ref (f1 0), .ref (f2 0), .int 0, .int 0, .int 0, .null]))] ++ mkF_11 (kcy C) f1) ++ mkF_10 (kcy C) f2)
  refine kx_al hC hl 0 (k := 0) rfl rfl (by decide +kernel) ?_
  refine kx_int hC (v := nI 0) (by decide +kernel) (Or.inl ⟨0, rfl, rfl, by decide⟩) ?_
  refine kx_put hC hin (ci := 1) (b := 2) (q0 := 0) (px_gw (p := 1098) rfl rfl) (by decide) (by decide +kernel) (by decide) rfl rfl rfl (Nat.le_of_ble_eq_true rfl) (by decide +kernel) ?_
  show kW C 6 931 31 la [] (([(a, .inr (1, [.ref (f1 0), .ref (f2 0), .int (nI 0), .int 0, .int 0, .null]))] ++ mkF_11 (kcy C) f1) ++ mkF_10 (kcy C) f2)
  refine kx_al hC hl 0 (k := 0) rfl rfl (by decide +kernel) ?_
  refine kx_int hC (v := nI 0) (by decide +kernel) (Or.inl ⟨0, rfl, rfl, by decide⟩) ?_
  refine kx_put hC hin (ci := 1) (b := 3) (q0 := 0) (px_gw (p := 1101) rfl rfl) (by decide) (by decide +kernel) (by decide) rfl rfl rfl (Nat.le_of_ble_eq_true rfl) (by decide +kernel) ?_
  show kW C 6 931 36 la [] (([(a, .inr (1, [.ref (f1 0), .ref (f2 0), .int (nI 0), .int (nI 0), .int 0, .null]))] ++ mkF_11 (kcy C) f1) ++ mkF_10 (kcy C) f2)
  refine kx_al hC hl 0 (k := 0) rfl rfl (by decide +kernel) ?_
  refine kx_int hC (v := nI 0) (by decide +kernel) (Or.inl ⟨0, rfl, rfl, by decide⟩) ?_
  refine kx_put hC hin (ci := 1) (b := 4) (q0 := 0) (px_gw (p := 1103) rfl rfl) (by decide) (by decide +kernel) (by decide) rfl rfl rfl (Nat.le_of_ble_eq_true rfl) (by decide +kernel) ?_
  show kW C 6 931 41 la [] (([(a, .inr (1, [.ref (f1 0), .ref (f2 0), .int (nI 0), .int (nI 0), .int (nI 0), .null]))] ++ mkF_11 (kcy C) f1) ++ mkF_10 (kcy C) f2)
  refine kx_al hC hl 0 (k := 0) rfl rfl (by decide +kernel) ?_
  refine kx_int hC (v := nI 144) (by decide +kernel) (Or.inr (Or.inr ⟨144, rfl, rfl, by decide⟩)) ?_
  refine kx_newa hC (t := 0) (at0 := .int) (Or.inl ⟨rfl, rfl⟩) (px_gw (p := 1063) rfl rfl) (by omega) (Nat.le_of_ble_eq_true rfl) (Nat.le_of_ble_eq_true rfl) (by decide +kernel) (fun q3 => ?_)
  show kW C 7 1075 47 la [.ref q3, .ref a] ((([(a, .inr (1, [.ref (f1 0), .ref (f2 0), .int (nI 0), .int (nI 0), .int (nI 0), .null]))] ++ mkF_11 (kcy C) f1) ++ mkF_10 (kcy C) f2) ++ [(q3, .inl (kcy C 0, kza 0 144))])
  refine kx_put hC hin (ci := 1) (b := 5) (q0 := 0) (px_gw (p := 1104) rfl rfl) (by decide) (by decide +kernel) (by decide) rfl rfl rfl (Nat.le_of_ble_eq_true rfl) (by decide +kernel) ?_
  show kW C 7 1075 50 la [] ((([(a, .inr (1, [.ref (f1 0), .ref (f2 0), .int (nI 0), .int (nI 0), .int (nI 0), .ref q3]))] ++ mkF_11 (kcy C) f1) ++ mkF_10 (kcy C) f2) ++ [(q3, .inl (kcy C 0, kza 0 144))])
  exact hret 50 la (fun k => if k = 0 then a else if k < 3 then f1 (k - 1) else if k < 7 then f2 (k - 3) else q3) (by decide +kernel) rfl
def mkF_8 (cy : Nat → ClassId) (f : Nat → Nat) : va_W := ((([(f 0, .inr (8, [.ref (f 1), .ref (f 2), .ref (f 3)]))] ++ [((f 1), .inl (cy 0, kza 0 11))]) ++ [((f 2), .inl (cy 0, kza 0 132))]) ++ mkF_11 cy (fun k => f (3 + k)))
set_option maxHeartbeats 4000000 in
set_option maxRecDepth 100000 in
theorem kM_8 : kM pn_i8001 8 2 4 156 mkF_8 := by
  refine kx_enter (by decide +kernel) rfl rfl rfl (by decide) (fun C a la hC hin hl hret => ?_)
  refine kx_al hC hl 0 (k := 0) rfl rfl (by decide +kernel) ?_
  refine kx_obj hC (px_gw (p := 1181) rfl rfl) (px_gw (p := 1028) rfl rfl) (px_gw (p := 1029) rfl rfl) hl.1 (by omega) (by decide +kernel) ?_
  show kW C 0 0 4 la [] [(a, .inr (8, [.null, .null, .null]))]
  refine kx_al hC hl 0 (k := 0) rfl rfl (by decide +kernel) ?_
  refine kx_int hC (v := nI 11) (by decide +kernel) (Or.inr (Or.inl ⟨11, rfl, rfl, by decide⟩)) ?_
  refine kx_newa hC (t := 0) (at0 := .int) (Or.inl ⟨rfl, rfl⟩) (px_gw (p := 1063) rfl rfl) (by omega) (Nat.le_of_ble_eq_true rfl) (Nat.le_of_ble_eq_true rfl) (by decide +kernel) (fun q1 => ?_)
  show kW C 1 11 9 la [.ref q1, .ref a] ([(a, .inr (8, [.null, .null, .null]))] ++ [(q1, .inl (kcy C 0, kza 0 11))])
  refine kx_put hC hin (ci := 8) (b := 0) (q0 := 0) (px_gw (p := 1184) rfl rfl) (by decide) (by decide +kernel) (by decide) rfl rfl rfl (Nat.le_of_ble_eq_true rfl) (by decide +kernel) ?_
  show kW C 1 11 12 la [] ([(a, .inr (8, [.ref q1, .null, .null]))] ++ [(q1, .inl (kcy C 0, kza 0 11))])
  refine kx_al hC hl 0 (k := 0) rfl rfl (by decide +kernel) ?_
  refine kx_int hC (v := nI 132) (by decide +kernel) (Or.inr (Or.inr ⟨132, rfl, rfl, by decide⟩)) ?_
  refine kx_newa hC (t := 0) (at0 := .int) (Or.inl ⟨rfl, rfl⟩) (px_gw (p := 1063) rfl rfl) (by omega) (Nat.le_of_ble_eq_true rfl) (Nat.le_of_ble_eq_true rfl) (by decide +kernel) (fun q2 => ?_)
  show kW C 2 143 18 la [.ref q2, .ref a] (([(a, .inr (8, [.ref q1, .null, .null]))] ++ [(q1, .inl (kcy C 0, kza 0 11))]) ++ [(q2, .inl (kcy C 0, kza 0 132))])
  refine kx_put hC hin (ci := 8) (b := 1) (q0 := 0) (px_gw (p := 1185) rfl rfl) (by decide) (by decide +kernel) (by decide) rfl rfl rfl (Nat.le_of_ble_eq_true rfl) (by decide +kernel) ?_
  show kW C 2 143 21 la [] (([(a, .inr (8, [.ref q1, .ref q2, .null]))] ++ [(q1, .inl (kcy C 0, kza 0 11))]) ++ [(q2, .inl (kcy C 0, kza 0 132))])
  refine kx_al hC hl 0 (k := 0) rfl rfl (by decide +kernel) ?_
  refine kx_new hC (ci := 11) (by decide) rfl (px_gw (p := 1182) rfl rfl) (px_gw (p := 1037) rfl rfl) (px_gw (p := 1003) rfl rfl) (by decide +kernel) (Nat.le_of_ble_eq_true rfl) (Nat.le_of_ble_eq_true rfl) (by decide +kernel) (fun q3 => ?_)
  show kW C 3 145 25 la [.ref q3, .ref a] ((([(a, .inr (8, [.ref q1, .ref q2, .null]))] ++ [(q1, .inl (kcy C 0, kza 0 11))]) ++ [(q2, .inl (kcy C 0, kza 0 132))]) ++ [(q3, .inr (11, kz 11))])
  refine kx_dup hC (by decide +kernel) rfl ?_
  refine kx_call hC kM_11 rfl rfl (px_gw (p := 1040) rfl rfl) (px_gw (p := 1003) rfl rfl) (px_gw (p := 1039) rfl rfl) (px_gw (p := 1183) rfl rfl) (by decide +kernel) rfl (by omega) (Nat.le_of_ble_eq_true rfl) (Nat.le_of_ble_eq_true rfl) hl.1 (Nat.le_of_ble_eq_true rfl) (by decide +kernel) (fun f3 e3 => ?_)
  subst e3
  show kW C 4 156 29 la [.ref (f3 0), .ref a] ((([(a, .inr (8, [.ref q1, .ref q2, .null]))] ++ [(q1, .inl (kcy C 0, kza 0 11))]) ++ [(q2, .inl (kcy C 0, kza 0 132))]) ++ mkF_11 (kcy C) f3)
  refine kx_put hC hin (ci := 8) (b := 2) (q0 := 0) (px_gw (p := 1186) rfl rfl) (by decide) (by decide +kernel) (by decide) rfl rfl rfl (Nat.le_of_ble_eq_true rfl) (by decide +kernel) ?_
  show kW C 4 156 32 la [] ((([(a, .inr (8, [.ref q1, .ref q2, .ref (f3 0)]))] ++ [(q1, .inl (kcy C 0, kza 0 11))]) ++ [(q2, .inl (kcy C 0, kza 0 132))]) ++ mkF_11 (kcy C) f3)
  exact hret 32 la (fun k => if k = 0 then a else if k < 2 then q1 else if k < 3 then q2 else f3 (k - 3)) (by decide +kernel) rfl
def mkF_4 (cy : Nat → ClassId) (f : Nat → Nat) : va_W := (((([(f 0, .inr (4, [.ref (f 1), .ref (f 3), .ref (f 4), .ref (f 5), .int (nI 0)]))] ++ mkF_3 cy (fun k => f (1 + k))) ++ [((f 3), .inl (cy 0, kza 0 2048))]) ++ [((f 4), .inl (cy 0, kza 0 11))]) ++ mkF_11 cy (fun k => f (5 + k)))
set_option maxHeartbeats 4000000 in
set_option maxRecDepth 100000 in
theorem kM_4 : kM pn_i4001 4 2 6 4122 mkF_4 := by
  refine kx_enter (by decide +kernel) rfl rfl rfl (by decide) (fun C a la hC hin hl hret => ?_)
  refine kx_al hC hl 0 (k := 0) rfl rfl (by decide +kernel) ?_
  refine kx_obj hC (px_gw (p := 1199) rfl rfl) (px_gw (p := 1028) rfl rfl) (px_gw (p := 1029) rfl rfl) hl.1 (by omega) (by decide +kernel) ?_
  show kW C 0 0 4 la [] [(a, .inr (4, [.null, .null, .null, .null, .int 0]))]
  refine kx_al hC hl 0 (k := 0) rfl rfl (by decide +kernel) ?_
  refine kx_new hC (ci := 3) (by decide) rfl (px_gw (p := 1200) rfl rfl) (px_gw (p := 1164) rfl rfl) (px_gw (p := 1006) rfl rfl) (by decide +kernel) (Nat.le_of_ble_eq_true rfl) (Nat.le_of_ble_eq_true rfl) (by decide +kernel) (fun q1 => ?_)
  show kW C 1 2 8 la [.ref q1, .ref a] ([(a, .inr (4, [.null, .null, .null, .null, .int 0]))] ++ [(q1, .inr (3, kz 3))])
  refine kx_dup hC (by decide +kernel) rfl ?_
  refine kx_call hC kM_3 rfl rfl (px_gw (p := 1167) rfl rfl) (px_gw (p := 1006) rfl rfl) (px_gw (p := 1166) rfl rfl) (px_gw (p := 1201) rfl rfl) (by decide +kernel) rfl (by omega) (Nat.le_of_ble_eq_true rfl) (Nat.le_of_ble_eq_true rfl) hl.1 (Nat.le_of_ble_eq_true rfl) (by decide +kernel) (fun f1 e1 => ?_)
  subst e1
  show kW C 2 2050 12 la [.ref (f1 0), .ref a] ([(a, .inr (4, [.null, .null, .null, .null, .int 0]))] ++ mkF_3 (kcy C) f1)
  refine kx_put hC hin (ci := 4) (b := 0) (q0 := 0) (px_gw (p := 1204) rfl rfl) (by decide) (by decide +kernel) (by decide) rfl rfl rfl (Nat.le_of_ble_eq_true rfl) (by decide +kernel) ?_
  show kW C 2 2050 15 la [] ([(a, .inr (4, [.ref (f1 0), .null, .null, .null, .int 0]))] ++ mkF_3 (kcy C) f1)
  refine kx_al hC hl 0 (k := 0) rfl rfl (by decide +kernel) ?_
  refine kx_int hC (v := nI 2048) (by decide +kernel) (Or.inr (Or.inr ⟨2048, rfl, rfl, by decide⟩)) ?_
  refine kx_newa hC (t := 0) (at0 := .int) (Or.inl ⟨rfl, rfl⟩) (px_gw (p := 1063) rfl rfl) (by omega) (Nat.le_of_ble_eq_true rfl) (Nat.le_of_ble_eq_true rfl) (by decide +kernel) (fun q2 => ?_)
  show kW C 3 4098 21 la [.ref q2, .ref a] (([(a, .inr (4, [.ref (f1 0), .null, .null, .null, .int 0]))] ++ mkF_3 (kcy C) f1) ++ [(q2, .inl (kcy C 0, kza 0 2048))])
  refine kx_put hC hin (ci := 4) (b := 1) (q0 := 0) (px_gw (p := 1205) rfl rfl) (by decide) (by decide +kernel) (by decide) rfl rfl rfl (Nat.le_of_ble_eq_true rfl) (by decide +kernel) ?_
  show kW C 3 4098 24 la [] (([(a, .inr (4, [.ref (f1 0), .ref q2, .null, .null, .int 0]))] ++ mkF_3 (kcy C) f1) ++ [(q2, .inl (kcy C 0, kza 0 2048))])
  refine kx_al hC hl 0 (k := 0) rfl rfl (by decide +kernel) ?_
  refine kx_int hC (v := nI 11) (by decide +kernel) (Or.inr (Or.inl ⟨11, rfl, rfl, by decide⟩)) ?_
  refine kx_newa hC (t := 0) (at0 := .int) (Or.inl ⟨rfl, rfl⟩) (px_gw (p := 1063) rfl rfl) (by omega) (Nat.le_of_ble_eq_true rfl) (Nat.le_of_ble_eq_true rfl) (by decide +kernel) (fun q3 => ?_)
  show kW C 4 4109 29 la [.ref q3, .ref a] ((([(a, .inr (4, [.ref (f1 0), .ref q2, .null, .null, .int 0]))] ++ mkF_3 (kcy C) f1) ++ [(q2, .inl (kcy C 0, kza 0 2048))]) ++ [(q3, .inl (kcy C 0, kza 0 11))])
  refine kx_put hC hin (ci := 4) (b := 2) (q0 := 0) (px_gw (p := 1206) rfl rfl) (by decide) (by decide +kernel) (by decide) rfl rfl rfl (Nat.le_of_ble_eq_true rfl) (by decide +kernel) ?_
  show kW C 4 4109 32 la [] ((([(a, .inr (4, [.ref (f1 0), .ref q2, .ref q3, .null, .int 0]))] ++ mkF_3 (kcy C) f1) ++ [(q2, .inl (kcy C 0, kza 0 2048))]) ++ [(q3, .inl (kcy C 0, kza 0 11))])
  refine kx_al hC hl 0 (k := 0) rfl rfl (by decide +kernel) ?_
  refine kx_new hC (ci := 11) (by decide) rfl (px_gw (p := 1202) rfl rfl) (px_gw (p := 1037) rfl rfl) (px_gw (p := 1003) rfl rfl) (by decide +kernel) (Nat.le_of_ble_eq_true rfl) (Nat.le_of_ble_eq_true rfl) (by decide +kernel) (fun q4 => ?_)
  show kW C 5 4111 36 la [.ref q4, .ref a] (((([(a, .inr (4, [.ref (f1 0), .ref q2, .ref q3, .null, .int 0]))] ++ mkF_3 (kcy C) f1) ++ [(q2, .inl (kcy C 0, kza 0 2048))]) ++ [(q3, .inl (kcy C 0, kza 0 11))]) ++ [(q4, .inr (11, kz 11))])
  refine kx_dup hC (by decide +kernel) rfl ?_
  refine kx_call hC kM_11 rfl rfl (px_gw (p := 1040) rfl rfl) (px_gw (p := 1003) rfl rfl) (px_gw (p := 1039) rfl rfl) (px_gw (p := 1203) rfl rfl) (by decide +kernel) rfl (by omega) (Nat.le_of_ble_eq_true rfl) (Nat.le_of_ble_eq_true rfl) hl.1 (Nat.le_of_ble_eq_true rfl) (by decide +kernel) (fun f4 e4 => ?_)
  subst e4
  show kW C 6 4122 40 la [.ref (f4 0), .ref a] (((([(a, .inr (4, [.ref (f1 0), .ref q2, .ref q3, .null, .int 0]))] ++ mkF_3 (kcy C) f1) ++ [(q2, .inl (kcy C 0, kza 0 2048))]) ++ [(q3, .inl (kcy C 0, kza 0 11))]) ++ mkF_11 (kcy C) f4)
  refine kx_put hC hin (ci := 4) (b := 3) (q0 := 0) (px_gw (p := 1207) rfl rfl) (by decide) (by decide +kernel) (by decide) rfl rfl rfl (Nat.le_of_ble_eq_true rfl) (by decide +kernel) ?_
  show kW C 6 4122 43 la [] (((([(a, .inr (4, [.ref (f1 0), .ref q2, .ref q3, .ref (f4 0), .int 0]))] ++ mkF_3 (kcy C) f1) ++ [(q2, .inl (kcy C 0, kza 0 2048))]) ++ [(q3, .inl (kcy C 0, kza 0 11))]) ++ mkF_11 (kcy C) f4)
  refine kx_al hC hl 0 (k := 0) rfl rfl (by decide +kernel) ?_
  refine kx_int hC (v := nI 0) (by decide +kernel) (Or.inl ⟨0, rfl, rfl, by decide⟩) ?_
  refine kx_put hC hin (ci := 4) (b := 4) (q0 := 0) (px_gw (p := 1208) rfl rfl) (by decide) (by decide +kernel) (by decide) rfl rfl rfl (Nat.le_of_ble_eq_true rfl) (by decide +kernel) ?_
  show kW C 6 4122 48 la [] (((([(a, .inr (4, [.ref (f1 0), .ref q2, .ref q3, .ref (f4 0), .int (nI 0)]))] ++ mkF_3 (kcy C) f1) ++ [(q2, .inl (kcy C 0, kza 0 2048))]) ++ [(q3, .inl (kcy C 0, kza 0 11))]) ++ mkF_11 (kcy C) f4)
  exact hret 48 la (fun k => if k = 0 then a else if k < 3 then f1 (k - 1) else if k < 4 then q2 else if k < 5 then q3 else f4 (k - 5)) (by decide +kernel) rfl
def mkF_6 (cy : Nat → ClassId) (f : Nat → Nat) : va_W := ((([(f 0, .inr (6, [.ref (f 1), .ref (f 2), .ref (f 4), .int (nI 0)]))] ++ [((f 1), .inl (cy 0, kza 0 11))]) ++ mkF_11 cy (fun k => f (2 + k))) ++ mkF_11 cy (fun k => f (4 + k)))
set_option maxHeartbeats 4000000 in
set_option maxRecDepth 100000 in
theorem kM_6 : kM pn_i6001 6 2 5 37 mkF_6 := by
  refine kx_enter (by decide +kernel) rfl rfl rfl (by decide) (fun C a la hC hin hl hret => ?_)
  refine kx_al hC hl 0 (k := 0) rfl rfl (by decide +kernel) ?_
  refine kx_obj hC (px_gw (p := 1225) rfl rfl) (px_gw (p := 1028) rfl rfl) (px_gw (p := 1029) rfl rfl) hl.1 (by omega) (by decide +kernel) ?_
  show kW C 0 0 4 la [] [(a, .inr (6, [.null, .null, .null, .int 0]))]
  refine kx_al hC hl 0 (k := 0) rfl rfl (by decide +kernel) ?_
  refine kx_int hC (v := nI 11) (by decide +kernel) (Or.inr (Or.inl ⟨11, rfl, rfl, by decide⟩)) ?_
  refine kx_newa hC (t := 0) (at0 := .int) (Or.inl ⟨rfl, rfl⟩) (px_gw (p := 1063) rfl rfl) (by omega) (Nat.le_of_ble_eq_true rfl) (Nat.le_of_ble_eq_true rfl) (by decide +kernel) (fun q1 => ?_)
  show kW C 1 11 9 la [.ref q1, .ref a] ([(a, .inr (6, [.null, .null, .null, .int 0]))] ++ [(q1, .inl (kcy C 0, kza 0 11))])
  refine kx_put hC hin (ci := 6) (b := 0) (q0 := 0) (px_gw (p := 1228) rfl rfl) (by decide) (by decide +kernel) (by decide) rfl rfl rfl (Nat.le_of_ble_eq_true rfl) (by decide +kernel) ?_
  show kW C 1 11 12 la [] ([(a, .inr (6, [.ref q1, .null, .null, .int 0]))] ++ [(q1, .inl (kcy C 0, kza 0 11))])
  refine kx_al hC hl 0 (k := 0) rfl rfl (by decide +kernel) ?_
  refine kx_new hC (ci := 11) (by decide) rfl (px_gw (p := 1226) rfl rfl) (px_gw (p := 1037) rfl rfl) (px_gw (p := 1003) rfl rfl) (by decide +kernel) (Nat.le_of_ble_eq_true rfl) (Nat.le_of_ble_eq_true rfl) (by decide +kernel) (fun q2 => ?_)
  show kW C 2 13 16 la [.ref q2, .ref a] (([(a, .inr (6, [.ref q1, .null, .null, .int 0]))] ++ [(q1, .inl (kcy C 0, kza 0 11))]) ++ [(q2, .inr (11, kz 11))])
  refine kx_dup hC (by decide +kernel) rfl ?_
  refine kx_call hC kM_11 rfl rfl (px_gw (p := 1040) rfl rfl) (px_gw (p := 1003) rfl rfl) (px_gw (p := 1039) rfl rfl) (px_gw (p := 1227) rfl rfl) (by decide +kernel) rfl (by omega) (Nat.le_of_ble_eq_true rfl) (Nat.le_of_ble_eq_true rfl) hl.1 (Nat.le_of_ble_eq_true rfl) (by decide +kernel) (fun f2 e2 => ?_)
  subst e2
  show kW C 3 24 20 la [.ref (f2 0), .ref a] (([(a, .inr (6, [.ref q1, .null, .null, .int 0]))] ++ [(q1, .inl (kcy C 0, kza 0 11))]) ++ mkF_11 (kcy C) f2)
  refine kx_put hC hin (ci := 6) (b := 1) (q0 := 0) (px_gw (p := 1229) rfl rfl) (by decide) (by decide +kernel) (by decide) rfl rfl rfl (Nat.le_of_ble_eq_true rfl) (by decide +kernel) ?_
  show kW C 3 24 23 la [] (([(a, .inr (6, [.ref q1, .ref (f2 0), .null, .int 0]))] ++ [(q1, .inl (kcy C 0, kza 0 11))]) ++ mkF_11 (kcy C) f2)
  refine kx_al hC hl 0 (k := 0) rfl rfl (by decide +kernel) ?_
  refine kx_new hC (ci := 11) (by decide) rfl (px_gw (p := 1226) rfl rfl) (px_gw (p := 1037) rfl rfl) (px_gw (p := 1003) rfl rfl) (by decide +kernel) (Nat.le_of_ble_eq_true rfl) (Nat.le_of_ble_eq_true rfl) (by decide +kernel) (fun q3 => ?_)
  show kW C 4 26 27 la [.ref q3, .ref a] ((([(a, .inr (6, [.ref q1, .ref (f2 0), .null, .int 0]))] ++ [(q1, .inl (kcy C 0, kza 0 11))]) ++ mkF_11 (kcy C) f2) ++ [(q3, .inr (11, kz 11))])
  refine kx_dup hC (by decide +kernel) rfl ?_
  refine kx_call hC kM_11 rfl rfl (px_gw (p := 1040) rfl rfl) (px_gw (p := 1003) rfl rfl) (px_gw (p := 1039) rfl rfl) (px_gw (p := 1227) rfl rfl) (by decide +kernel) rfl (by omega) (Nat.le_of_ble_eq_true rfl) (Nat.le_of_ble_eq_true rfl) hl.1 (Nat.le_of_ble_eq_true rfl) (by decide +kernel) (fun f3 e3 => ?_)
  subst e3
  show kW C 5 37 31 la [.ref (f3 0), .ref a] ((([(a, .inr (6, [.ref q1, .ref (f2 0), .null, .int 0]))] ++ [(q1, .inl (kcy C 0, kza 0 11))]) ++ mkF_11 (kcy C) f2) ++ mkF_11 (kcy C) f3)
  refine kx_put hC hin (ci := 6) (b := 2) (q0 := 0) (px_gw (p := 1230) rfl rfl) (by decide) (by decide +kernel) (by decide) rfl rfl rfl (Nat.le_of_ble_eq_true rfl) (by decide +kernel) ?_
  show kW C 5 37 34 la [] ((([(a, .inr (6, [.ref q1, .ref (f2 0), .ref (f3 0), .int 0]))] ++ [(q1, .inl (kcy C 0, kza 0 11))]) ++ mkF_11 (kcy C) f2) ++ mkF_11 (kcy C) f3)
  refine kx_al hC hl 0 (k := 0) rfl rfl (by decide +kernel) ?_
  refine kx_int hC (v := nI 0) (by decide +kernel) (Or.inl ⟨0, rfl, rfl, by decide⟩) ?_
  refine kx_put hC hin (ci := 6) (b := 3) (q0 := 0) (px_gw (p := 1231) rfl rfl) (by decide) (by decide +kernel) (by decide) rfl rfl rfl (Nat.le_of_ble_eq_true rfl) (by decide +kernel) ?_
  show kW C 5 37 39 la [] ((([(a, .inr (6, [.ref q1, .ref (f2 0), .ref (f3 0), .int (nI 0)]))] ++ [(q1, .inl (kcy C 0, kza 0 11))]) ++ mkF_11 (kcy C) f2) ++ mkF_11 (kcy C) f3)
  exact hret 39 la (fun k => if k = 0 then a else if k < 2 then q1 else if k < 4 then f2 (k - 2) else f3 (k - 4)) (by decide +kernel) rfl
def mkF_5 (cy : Nat → ClassId) (f : Nat → Nat) : va_W := ([(f 0, .inr (5, [.ref (f 1), .long (-1)]))] ++ mkF_11 cy (fun k => f (1 + k)))
set_option maxHeartbeats 4000000 in
set_option maxRecDepth 100000 in
theorem kM_5 : kM pn_i5001 5 2 2 13 mkF_5 := by
  refine kx_enter (by decide +kernel) rfl rfl rfl (by decide) (fun C a la hC hin hl hret => ?_)
  refine kx_al hC hl 0 (k := 0) rfl rfl (by decide +kernel) ?_
  refine kx_obj hC (px_gw (p := 2006) rfl rfl) (px_gw (p := 1028) rfl rfl) (px_gw (p := 1029) rfl rfl) hl.1 (by omega) (by decide +kernel) ?_
  show kW C 0 0 4 la [] [(a, .inr (5, [.null, .long 0]))]
  refine kx_al hC hl 0 (k := 0) rfl rfl (by decide +kernel) ?_
  refine kx_new hC (ci := 11) (by decide) rfl (px_gw (p := 2007) rfl rfl) (px_gw (p := 1037) rfl rfl) (px_gw (p := 1003) rfl rfl) (by decide +kernel) (Nat.le_of_ble_eq_true rfl) (Nat.le_of_ble_eq_true rfl) (by decide +kernel) (fun q1 => ?_)
  show kW C 1 2 8 la [.ref q1, .ref a] ([(a, .inr (5, [.null, .long 0]))] ++ [(q1, .inr (11, kz 11))])
  refine kx_dup hC (by decide +kernel) rfl ?_
  refine kx_call hC kM_11 rfl rfl (px_gw (p := 1040) rfl rfl) (px_gw (p := 1003) rfl rfl) (px_gw (p := 1039) rfl rfl) (px_gw (p := 2008) rfl rfl) (by decide +kernel) rfl (by omega) (Nat.le_of_ble_eq_true rfl) (Nat.le_of_ble_eq_true rfl) hl.1 (Nat.le_of_ble_eq_true rfl) (by decide +kernel) (fun f1 e1 => ?_)
  subst e1
  show kW C 2 13 12 la [.ref (f1 0), .ref a] ([(a, .inr (5, [.null, .long 0]))] ++ mkF_11 (kcy C) f1)
  refine kx_put hC hin (ci := 5) (b := 0) (q0 := 0) (px_gw (p := 2010) rfl rfl) (by decide) (by decide +kernel) (by decide) rfl rfl rfl (Nat.le_of_ble_eq_true rfl) (by decide +kernel) ?_
  show kW C 2 13 15 la [] ([(a, .inr (5, [.ref (f1 0), .long 0]))] ++ mkF_11 (kcy C) f1)
  refine kx_al hC hl 0 (k := 0) rfl rfl (by decide +kernel) ?_
  refine kx_ldc2 hC (v := -1) (px_gw (p := 2009) rfl rfl) (by decide +kernel) ?_
  refine kx_put hC hin (ci := 5) (b := 1) (q0 := 0) (px_gw (p := 2011) rfl rfl) (by decide) (by decide +kernel) (by decide) rfl rfl rfl (Nat.le_of_ble_eq_true rfl) (by decide +kernel) ?_
  show kW C 2 13 22 la [] ([(a, .inr (5, [.ref (f1 0), .long (-1)]))] ++ mkF_11 (kcy C) f1)
  exact hret 22 la (fun k => if k = 0 then a else f1 (k - 1)) (by decide +kernel) rfl
def mkF_7 (cy : Nat → ClassId) (f : Nat → Nat) : va_W := (([(f 0, .inr (7, [.ref (f 1), .ref (f 3)]))] ++ mkF_11 cy (fun k => f (1 + k))) ++ mkF_11 cy (fun k => f (3 + k)))
set_option maxHeartbeats 4000000 in
set_option maxRecDepth 100000 in
theorem kM_7 : kM pn_i7001 7 2 4 26 mkF_7 := by
  refine kx_enter (by decide +kernel) rfl rfl rfl (by decide) (fun C a la hC hin hl hret => ?_)
  refine kx_al hC hl 0 (k := 0) rfl rfl (by decide +kernel) ?_
  refine kx_obj hC (px_gw (p := 2065) rfl rfl) (px_gw (p := 1028) rfl rfl) (px_gw (p := 1029) rfl rfl) hl.1 (by omega) (by decide +kernel) ?_
  show kW C 0 0 4 la [] [(a, .inr (7, [.null, .null]))]
  refine kx_al hC hl 0 (k := 0) rfl rfl (by decide +kernel) ?_
  refine kx_new hC (ci := 11) (by decide) rfl (px_gw (p := 2066) rfl rfl) (px_gw (p := 1037) rfl rfl) (px_gw (p := 1003) rfl rfl) (by decide +kernel) (Nat.le_of_ble_eq_true rfl) (Nat.le_of_ble_eq_true rfl) (by decide +kernel) (fun q1 => ?_)
  show kW C 1 2 8 la [.ref q1, .ref a] ([(a, .inr (7, [.null, .null]))] ++ [(q1, .inr (11, kz 11))])
  refine kx_dup hC (by decide +kernel) rfl ?_
  refine kx_call hC kM_11 rfl rfl (px_gw (p := 1040) rfl rfl) (px_gw (p := 1003) rfl rfl) (px_gw (p := 1039) rfl rfl) (px_gw (p := 2067) rfl rfl) (by decide +kernel) rfl (by omega) (Nat.le_of_ble_eq_true rfl) (Nat.le_of_ble_eq_true rfl) hl.1 (Nat.le_of_ble_eq_true rfl) (by decide +kernel) (fun f1 e1 => ?_)
  subst e1
  show kW C 2 13 12 la [.ref (f1 0), .ref a] ([(a, .inr (7, [.null, .null]))] ++ mkF_11 (kcy C) f1)
  refine kx_put hC hin (ci := 7) (b := 0) (q0 := 0) (px_gw (p := 2068) rfl rfl) (by decide) (by decide +kernel) (by decide) rfl rfl rfl (Nat.le_of_ble_eq_true rfl) (by decide +kernel) ?_
  show kW C 2 13 15 la [] ([(a, .inr (7, [.ref (f1 0), .null]))] ++ mkF_11 (kcy C) f1)
  refine kx_al hC hl 0 (k := 0) rfl rfl (by decide +kernel) ?_
  refine kx_new hC (ci := 11) (by decide) rfl (px_gw (p := 2066) rfl rfl) (px_gw (p := 1037) rfl rfl) (px_gw (p := 1003) rfl rfl) (by decide +kernel) (Nat.le_of_ble_eq_true rfl) (Nat.le_of_ble_eq_true rfl) (by decide +kernel) (fun q2 => ?_)
  show kW C 3 15 19 la [.ref q2, .ref a] (([(a, .inr (7, [.ref (f1 0), .null]))] ++ mkF_11 (kcy C) f1) ++ [(q2, .inr (11, kz 11))])
  refine kx_dup hC (by decide +kernel) rfl ?_
  refine kx_call hC kM_11 rfl rfl (px_gw (p := 1040) rfl rfl) (px_gw (p := 1003) rfl rfl) (px_gw (p := 1039) rfl rfl) (px_gw (p := 2067) rfl rfl) (by decide +kernel) rfl (by omega) (Nat.le_of_ble_eq_true rfl) (Nat.le_of_ble_eq_true rfl) hl.1 (Nat.le_of_ble_eq_true rfl) (by decide +kernel) (fun f2 e2 => ?_)
  subst e2
  show kW C 4 26 23 la [.ref (f2 0), .ref a] (([(a, .inr (7, [.ref (f1 0), .null]))] ++ mkF_11 (kcy C) f1) ++ mkF_11 (kcy C) f2)
  refine kx_put hC hin (ci := 7) (b := 1) (q0 := 0) (px_gw (p := 2070) rfl rfl) (by decide) (by decide +kernel) (by decide) rfl rfl rfl (Nat.le_of_ble_eq_true rfl) (by decide +kernel) ?_
  show kW C 4 26 26 la [] (([(a, .inr (7, [.ref (f1 0), .ref (f2 0)]))] ++ mkF_11 (kcy C) f1) ++ mkF_11 (kcy C) f2)
  exact hret 26 la (fun k => if k = 0 then a else if k < 3 then f1 (k - 1) else f2 (k - 3)) (by decide +kernel) rfl
def mkF_9 (cy : Nat → ClassId) (f : Nat → Nat) : va_W := (((([(f 0, .inr (9, [.int (nI 0), .int (nI 0), .int (-1), .ref (f 10), .ref (f 1), .ref (f 2), .ref (f 3), .int (nI 0), .int (nI 0), .int (nI 3005)]))] ++ mkF_1 cy (fun k => f (10 + k))) ++ [((f 1), .inl (cy 1, kza 1 900))]) ++ [((f 2), .inl (cy 0, kza 0 901))]) ++ [((f 3), .inl (cy 0, kza 0 901))])
set_option maxHeartbeats 4000000 in
set_option maxRecDepth 100000 in
theorem kM_9 : kM pn_i9001 9 3 11 3783 mkF_9 := by
  refine kx_enter (by decide +kernel) rfl rfl rfl (by decide) (fun C a la hC hin hl hret => ?_)
  refine kx_al hC hl 0 (k := 0) rfl rfl (by decide +kernel) ?_
  refine kx_obj hC (px_gw (p := 1123) rfl rfl) (px_gw (p := 1028) rfl rfl) (px_gw (p := 1029) rfl rfl) hl.1 (by omega) (by decide +kernel) ?_
  show kW C 0 0 4 la [] [(a, .inr (9, [.int 0, .int 0, .int 0, .null, .null, .null, .null, .int 0, .int 0, .int 0]))]
  refine kx_al hC hl 0 (k := 0) rfl rfl (by decide +kernel) ?_
  refine kx_int hC (v := nI 0) (by decide +kernel) (Or.inl ⟨0, rfl, rfl, by decide⟩) ?_
  refine kx_put hC hin (ci := 9) (b := 0) (q0 := 0) (px_gw (p := 1126) rfl rfl) (by decide) (by decide +kernel) (by decide) rfl rfl rfl (Nat.le_of_ble_eq_true rfl) (by decide +kernel) ?_
  show kW C 0 0 9 la [] [(a, .inr (9, [.int (nI 0), .int 0, .int 0, .null, .null, .null, .null, .int 0, .int 0, .int 0]))]
  refine kx_al hC hl 0 (k := 0) rfl rfl (by decide +kernel) ?_
  refine kx_int hC (v := nI 0) (by decide +kernel) (Or.inl ⟨0, rfl, rfl, by decide⟩) ?_
  refine kx_put hC hin (ci := 9) (b := 1) (q0 := 0) (px_gw (p := 1128) rfl rfl) (by decide) (by decide +kernel) (by decide) rfl rfl rfl (Nat.le_of_ble_eq_true rfl) (by decide +kernel) ?_
  show kW C 0 0 14 la [] [(a, .inr (9, [.int (nI 0), .int (nI 0), .int 0, .null, .null, .null, .null, .int 0, .int 0, .int 0]))]
  refine kx_al hC hl 0 (k := 0) rfl rfl (by decide +kernel) ?_
  refine kx_int hC (v := -1) (by decide +kernel) (Or.inl ⟨-1, rfl, rfl, by decide⟩) ?_
  refine kx_put hC hin (ci := 9) (b := 2) (q0 := 0) (px_gw (p := 1130) rfl rfl) (by decide) (by decide +kernel) (by decide) rfl rfl rfl (Nat.le_of_ble_eq_true rfl) (by decide +kernel) ?_
  show kW C 0 0 19 la [] [(a, .inr (9, [.int (nI 0), .int (nI 0), .int (-1), .null, .null, .null, .null, .int 0, .int 0, .int 0]))]
  refine kx_al hC hl 0 (k := 0) rfl rfl (by decide +kernel) ?_
  refine kx_new hC (ci := 1) (by decide) rfl (px_gw (p := 1124) rfl rfl) (px_gw (p := 1031) rfl rfl) (px_gw (p := 1002) rfl rfl) (by decide +kernel) (Nat.le_of_ble_eq_true rfl) (Nat.le_of_ble_eq_true rfl) (by decide +kernel) (fun q1 => ?_)
  show kW C 1 6 23 la [.ref q1, .ref a] ([(a, .inr (9, [.int (nI 0), .int (nI 0), .int (-1), .null, .null, .null, .null, .int 0, .int 0, .int 0]))] ++ [(q1, .inr (1, kz 1))])
  refine kx_dup hC (by decide +kernel) rfl ?_
  refine kx_call hC kM_1 rfl rfl (px_gw (p := 1034) rfl rfl) (px_gw (p := 1002) rfl rfl) (px_gw (p := 1033) rfl rfl) (px_gw (p := 1125) rfl rfl) (by decide +kernel) rfl (by omega) (Nat.le_of_ble_eq_true rfl) (Nat.le_of_ble_eq_true rfl) hl.1 (Nat.le_of_ble_eq_true rfl) (by decide +kernel) (fun f1 e1 => ?_)
  subst e1
  show kW C 8 1081 27 la [.ref (f1 0), .ref a] ([(a, .inr (9, [.int (nI 0), .int (nI 0), .int (-1), .null, .null, .null, .null, .int 0, .int 0, .int 0]))] ++ mkF_1 (kcy C) f1)
  refine kx_put hC hin (ci := 9) (b := 3) (q0 := 0) (px_gw (p := 1132) rfl rfl) (by decide) (by decide +kernel) (by decide) rfl rfl rfl (Nat.le_of_ble_eq_true rfl) (by decide +kernel) ?_
  show kW C 8 1081 30 la [] ([(a, .inr (9, [.int (nI 0), .int (nI 0), .int (-1), .ref (f1 0), .null, .null, .null, .int 0, .int 0, .int 0]))] ++ mkF_1 (kcy C) f1)
  refine kx_al hC hl 0 (k := 0) rfl rfl (by decide +kernel) ?_
  refine kx_int hC (v := nI 900) (by decide +kernel) (Or.inr (Or.inr ⟨900, rfl, rfl, by decide⟩)) ?_
  refine kx_newa hC (t := 1) (at0 := .byte) (Or.inr (Or.inl ⟨rfl, rfl⟩)) (px_gw (p := 1162) rfl rfl) (by omega) (Nat.le_of_ble_eq_true rfl) (Nat.le_of_ble_eq_true rfl) (by decide +kernel) (fun q2 => ?_)
  show kW C 9 1981 36 la [.ref q2, .ref a] (([(a, .inr (9, [.int (nI 0), .int (nI 0), .int (-1), .ref (f1 0), .null, .null, .null, .int 0, .int 0, .int 0]))] ++ mkF_1 (kcy C) f1) ++ [(q2, .inl (kcy C 1, kza 1 900))])
  refine kx_put hC hin (ci := 9) (b := 4) (q0 := 0) (px_gw (p := 1134) rfl rfl) (by decide) (by decide +kernel) (by decide) rfl rfl rfl (Nat.le_of_ble_eq_true rfl) (by decide +kernel) ?_
  show kW C 9 1981 39 la [] (([(a, .inr (9, [.int (nI 0), .int (nI 0), .int (-1), .ref (f1 0), .ref q2, .null, .null, .int 0, .int 0, .int 0]))] ++ mkF_1 (kcy C) f1) ++ [(q2, .inl (kcy C 1, kza 1 900))])
  refine kx_al hC hl 0 (k := 0) rfl rfl (by decide +kernel) ?_
  refine kx_int hC (v := nI 901) (by decide +kernel) (Or.inr (Or.inr ⟨901, rfl, rfl, by decide⟩)) ?_
  refine kx_newa hC (t := 0) (at0 := .int) (Or.inl ⟨rfl, rfl⟩) (px_gw (p := 1063) rfl rfl) (by omega) (Nat.le_of_ble_eq_true rfl) (Nat.le_of_ble_eq_true rfl) (by decide +kernel) (fun q3 => ?_)
  show kW C 10 2882 45 la [.ref q3, .ref a] ((([(a, .inr (9, [.int (nI 0), .int (nI 0), .int (-1), .ref (f1 0), .ref q2, .null, .null, .int 0, .int 0, .int 0]))] ++ mkF_1 (kcy C) f1) ++ [(q2, .inl (kcy C 1, kza 1 900))]) ++ [(q3, .inl (kcy C 0, kza 0 901))])
  refine kx_put hC hin (ci := 9) (b := 5) (q0 := 0) (px_gw (p := 1135) rfl rfl) (by decide) (by decide +kernel) (by decide) rfl rfl rfl (Nat.le_of_ble_eq_true rfl) (by decide +kernel) ?_
  show kW C 10 2882 48 la [] ((([(a, .inr (9, [.int (nI 0), .int (nI 0), .int (-1), .ref (f1 0), .ref q2, .ref q3, .null, .int 0, .int 0, .int 0]))] ++ mkF_1 (kcy C) f1) ++ [(q2, .inl (kcy C 1, kza 1 900))]) ++ [(q3, .inl (kcy C 0, kza 0 901))])
  refine kx_al hC hl 0 (k := 0) rfl rfl (by decide +kernel) ?_
  refine kx_int hC (v := nI 901) (by decide +kernel) (Or.inr (Or.inr ⟨901, rfl, rfl, by decide⟩)) ?_
  refine kx_newa hC (t := 0) (at0 := .int) (Or.inl ⟨rfl, rfl⟩) (px_gw (p := 1063) rfl rfl) (by omega) (Nat.le_of_ble_eq_true rfl) (Nat.le_of_ble_eq_true rfl) (by decide +kernel) (fun q4 => ?_)
  show kW C 11 3783 54 la [.ref q4, .ref a] (((([(a, .inr (9, [.int (nI 0), .int (nI 0), .int (-1), .ref (f1 0), .ref q2, .ref q3, .null, .int 0, .int 0, .int 0]))] ++ mkF_1 (kcy C) f1) ++ [(q2, .inl (kcy C 1, kza 1 900))]) ++ [(q3, .inl (kcy C 0, kza 0 901))]) ++ [(q4, .inl (kcy C 0, kza 0 901))])
  refine kx_put hC hin (ci := 9) (b := 6) (q0 := 0) (px_gw (p := 1136) rfl rfl) (by decide) (by decide +kernel) (by decide) rfl rfl rfl (Nat.le_of_ble_eq_true rfl) (by decide +kernel) ?_
  show kW C 11 3783 57 la [] (((([(a, .inr (9, [.int (nI 0), .int (nI 0), .int (-1), .ref (f1 0), .ref q2, .ref q3, .ref q4, .int 0, .int 0, .int 0]))] ++ mkF_1 (kcy C) f1) ++ [(q2, .inl (kcy C 1, kza 1 900))]) ++ [(q3, .inl (kcy C 0, kza 0 901))]) ++ [(q4, .inl (kcy C 0, kza 0 901))])
  refine kx_al hC hl 0 (k := 0) rfl rfl (by decide +kernel) ?_
  refine kx_int hC (v := nI 0) (by decide +kernel) (Or.inl ⟨0, rfl, rfl, by decide⟩) ?_
  refine kx_put hC hin (ci := 9) (b := 7) (q0 := 0) (px_gw (p := 1137) rfl rfl) (by decide) (by decide +kernel) (by decide) rfl rfl rfl (Nat.le_of_ble_eq_true rfl) (by decide +kernel) ?_
  show kW C 11 3783 62 la [] (((([(a, .inr (9, [.int (nI 0), .int (nI 0), .int (-1), .ref (f1 0), .ref q2, .ref q3, .ref q4, .int (nI 0), .int 0, .int 0]))] ++ mkF_1 (kcy C) f1) ++ [(q2, .inl (kcy C 1, kza 1 900))]) ++ [(q3, .inl (kcy C 0, kza 0 901))]) ++ [(q4, .inl (kcy C 0, kza 0 901))])
  refine kx_al hC hl 0 (k := 0) rfl rfl (by decide +kernel) ?_
  refine kx_int hC (v := nI 0) (by decide +kernel) (Or.inl ⟨0, rfl, rfl, by decide⟩) ?_
  refine kx_put hC hin (ci := 9) (b := 8) (q0 := 0) (px_gw (p := 1138) rfl rfl) (by decide) (by decide +kernel) (by decide) rfl rfl rfl (Nat.le_of_ble_eq_true rfl) (by decide +kernel) ?_
  show kW C 11 3783 67 la [] (((([(a, .inr (9, [.int (nI 0), .int (nI 0), .int (-1), .ref (f1 0), .ref q2, .ref q3, .ref q4, .int (nI 0), .int (nI 0), .int 0]))] ++ mkF_1 (kcy C) f1) ++ [(q2, .inl (kcy C 1, kza 1 900))]) ++ [(q3, .inl (kcy C 0, kza 0 901))]) ++ [(q4, .inl (kcy C 0, kza 0 901))])
  refine kx_al hC hl 0 (k := 0) rfl rfl (by decide +kernel) ?_
  refine kx_int hC (v := nI 3005) (by decide +kernel) (Or.inr (Or.inr ⟨3005, rfl, rfl, by decide⟩)) ?_
  refine kx_put hC hin (ci := 9) (b := 9) (q0 := 0) (px_gw (p := 1139) rfl rfl) (by decide) (by decide +kernel) (by decide) rfl rfl rfl (Nat.le_of_ble_eq_true rfl) (by decide +kernel) ?_
  show kW C 11 3783 74 la [] (((([(a, .inr (9, [.int (nI 0), .int (nI 0), .int (-1), .ref (f1 0), .ref q2, .ref q3, .ref q4, .int (nI 0), .int (nI 0), .int (nI 3005)]))] ++ mkF_1 (kcy C) f1) ++ [(q2, .inl (kcy C 1, kza 1 900))]) ++ [(q3, .inl (kcy C 0, kza 0 901))]) ++ [(q4, .inl (kcy C 0, kza 0 901))])
  exact hret 74 la (fun k => if k = 0 then a else if k < 2 then q2 else if k < 3 then q3 else if k < 10 then q4 else f1 (k - 10)) (by decide +kernel) rfl
def mkF_2 (cy : Nat → ClassId) (f : Nat → Nat) : va_W := ((((((([(f 0, .inr (2, [.ref (f 1), .ref (f 6), .ref (f 8), .ref (f 9), .ref (f 10), .ref (f 11), .ref (f 15), .ref (f 6), .int (nI 0), .int (nI 0)]))] ++ mkF_8 cy (fun k => f (1 + k))) ++ mkF_11 cy (fun k => f (6 + k))) ++ [((f 8), .inl (cy 0, kza 0 64))]) ++ [((f 9), .inl (cy 0, kza 0 6))]) ++ [((f 10), .inl (cy 0, kza 0 99))]) ++ mkF_10 cy (fun k => f (11 + k))) ++ mkF_11 cy (fun k => f (15 + k)))
set_option maxHeartbeats 4000000 in
set_option maxRecDepth 100000 in
theorem kM_2 : kM pn_i2001 2 3 16 1272 mkF_2 := by
  refine kx_enter (by decide +kernel) rfl rfl rfl (by decide) (fun C a la hC hin hl hret => ?_)
  refine kx_al hC hl 0 (k := 0) rfl rfl (by decide +kernel) ?_
  refine kx_obj hC (px_gw (p := 2022) rfl rfl) (px_gw (p := 1028) rfl rfl) (px_gw (p := 1029) rfl rfl) hl.1 (by omega) (by decide +kernel) ?_
  show kW C 0 0 4 la [] [(a, .inr (2, [.null, .null, .null, .null, .null, .null, .null, .null, .int 0, .int 0]))]
  refine kx_al hC hl 0 (k := 0) rfl rfl (by decide +kernel) ?_
  refine kx_new hC (ci := 8) (by decide) rfl (px_gw (p := 2023) rfl rfl) (px_gw (p := 1177) rfl rfl) (px_gw (p := 1007) rfl rfl) (by decide +kernel) (Nat.le_of_ble_eq_true rfl) (Nat.le_of_ble_eq_true rfl) (by decide +kernel) (fun q1 => ?_)
  show kW C 1 3 8 la [.ref q1, .ref a] ([(a, .inr (2, [.null, .null, .null, .null, .null, .null, .null, .null, .int 0, .int 0]))] ++ [(q1, .inr (8, kz 8))])
  refine kx_dup hC (by decide +kernel) rfl ?_
  refine kx_call hC kM_8 rfl rfl (px_gw (p := 1180) rfl rfl) (px_gw (p := 1007) rfl rfl) (px_gw (p := 1179) rfl rfl) (px_gw (p := 2024) rfl rfl) (by decide +kernel) rfl (by omega) (Nat.le_of_ble_eq_true rfl) (Nat.le_of_ble_eq_true rfl) hl.1 (Nat.le_of_ble_eq_true rfl) (by decide +kernel) (fun f1 e1 => ?_)
  subst e1
  show kW C 5 159 12 la [.ref (f1 0), .ref a] ([(a, .inr (2, [.null, .null, .null, .null, .null, .null, .null, .null, .int 0, .int 0]))] ++ mkF_8 (kcy C) f1)
  refine kx_put hC hin (ci := 2) (b := 0) (q0 := 0) (px_gw (p := 2029) rfl rfl) (by decide) (by decide +kernel) (by decide) rfl rfl rfl (Nat.le_of_ble_eq_true rfl) (by decide +kernel) ?_
  show kW C 5 159 15 la [] ([(a, .inr (2, [.ref (f1 0), .null, .null, .null, .null, .null, .null, .null, .int 0, .int 0]))] ++ mkF_8 (kcy C) f1)
  refine kx_al hC hl 0 (k := 0) rfl rfl (by decide +kernel) ?_
  refine kx_new hC (ci := 11) (by decide) rfl (px_gw (p := 2025) rfl rfl) (px_gw (p := 1037) rfl rfl) (px_gw (p := 1003) rfl rfl) (by decide +kernel) (Nat.le_of_ble_eq_true rfl) (Nat.le_of_ble_eq_true rfl) (by decide +kernel) (fun q2 => ?_)
  show kW C 6 161 19 la [.ref q2, .ref a] (([(a, .inr (2, [.ref (f1 0), .null, .null, .null, .null, .null, .null, .null, .int 0, .int 0]))] ++ mkF_8 (kcy C) f1) ++ [(q2, .inr (11, kz 11))])
  refine kx_dup hC (by decide +kernel) rfl ?_
  refine kx_call hC kM_11 rfl rfl (px_gw (p := 1040) rfl rfl) (px_gw (p := 1003) rfl rfl) (px_gw (p := 1039) rfl rfl) (px_gw (p := 2026) rfl rfl) (by decide +kernel) rfl (by omega) (Nat.le_of_ble_eq_true rfl) (Nat.le_of_ble_eq_true rfl) hl.1 (Nat.le_of_ble_eq_true rfl) (by decide +kernel) (fun f2 e2 => ?_)
  subst e2
  show kW C 7 172 23 la [.ref (f2 0), .ref a] (([(a, .inr (2, [.ref (f1 0), .null, .null, .null, .null, .null, .null, .null, .int 0, .int 0]))] ++ mkF_8 (kcy C) f1) ++ mkF_11 (kcy C) f2)
  refine kx_put hC hin (ci := 2) (b := 1) (q0 := 0) (px_gw (p := 2030) rfl rfl) (by decide) (by decide +kernel) (by decide) rfl rfl rfl (Nat.le_of_ble_eq_true rfl) (by decide +kernel) ?_
  show kW C 7 172 26 la [] (([(a, .inr (2, [.ref (f1 0), .ref (f2 0), .null, .null, .null, .null, .null, .null, .int 0, .int 0]))] ++ mkF_8 (kcy C) f1) ++ mkF_11 (kcy C) f2)
  refine kx_al hC hl 0 (k := 0) rfl rfl (by decide +kernel) ?_
  refine kx_int hC (v := nI 64) (by decide +kernel) (Or.inr (Or.inl ⟨64, rfl, rfl, by decide⟩)) ?_
  refine kx_newa hC (t := 0) (at0 := .int) (Or.inl ⟨rfl, rfl⟩) (px_gw (p := 1063) rfl rfl) (by omega) (Nat.le_of_ble_eq_true rfl) (Nat.le_of_ble_eq_true rfl) (by decide +kernel) (fun q3 => ?_)
  show kW C 8 236 31 la [.ref q3, .ref a] ((([(a, .inr (2, [.ref (f1 0), .ref (f2 0), .null, .null, .null, .null, .null, .null, .int 0, .int 0]))] ++ mkF_8 (kcy C) f1) ++ mkF_11 (kcy C) f2) ++ [(q3, .inl (kcy C 0, kza 0 64))])
  refine kx_put hC hin (ci := 2) (b := 2) (q0 := 0) (px_gw (p := 2031) rfl rfl) (by decide) (by decide +kernel) (by decide) rfl rfl rfl (Nat.le_of_ble_eq_true rfl) (by decide +kernel) ?_
  show kW C 8 236 34 la [] ((([(a, .inr (2, [.ref (f1 0), .ref (f2 0), .ref q3, .null, .null, .null, .null, .null, .int 0, .int 0]))] ++ mkF_8 (kcy C) f1) ++ mkF_11 (kcy C) f2) ++ [(q3, .inl (kcy C 0, kza 0 64))])
  refine kx_al hC hl 0 (k := 0) rfl rfl (by decide +kernel) ?_
  refine kx_int hC (v := nI 6) (by decide +kernel) (Or.inr (Or.inl ⟨6, rfl, rfl, by decide⟩)) ?_
  refine kx_newa hC (t := 0) (at0 := .int) (Or.inl ⟨rfl, rfl⟩) (px_gw (p := 1063) rfl rfl) (by omega) (Nat.le_of_ble_eq_true rfl) (Nat.le_of_ble_eq_true rfl) (by decide +kernel) (fun q4 => ?_)
  show kW C 9 242 39 la [.ref q4, .ref a] (((([(a, .inr (2, [.ref (f1 0), .ref (f2 0), .ref q3, .null, .null, .null, .null, .null, .int 0, .int 0]))] ++ mkF_8 (kcy C) f1) ++ mkF_11 (kcy C) f2) ++ [(q3, .inl (kcy C 0, kza 0 64))]) ++ [(q4, .inl (kcy C 0, kza 0 6))])
  refine kx_put hC hin (ci := 2) (b := 3) (q0 := 0) (px_gw (p := 2032) rfl rfl) (by decide) (by decide +kernel) (by decide) rfl rfl rfl (Nat.le_of_ble_eq_true rfl) (by decide +kernel) ?_
  show kW C 9 242 42 la [] (((([(a, .inr (2, [.ref (f1 0), .ref (f2 0), .ref q3, .ref q4, .null, .null, .null, .null, .int 0, .int 0]))] ++ mkF_8 (kcy C) f1) ++ mkF_11 (kcy C) f2) ++ [(q3, .inl (kcy C 0, kza 0 64))]) ++ [(q4, .inl (kcy C 0, kza 0 6))])
  refine kx_al hC hl 0 (k := 0) rfl rfl (by decide +kernel) ?_
  refine kx_int hC (v := nI 99) (by decide +kernel) (Or.inr (Or.inl ⟨99, rfl, rfl, by decide⟩)) ?_
  refine kx_newa hC (t := 0) (at0 := .int) (Or.inl ⟨rfl, rfl⟩) (px_gw (p := 1063) rfl rfl) (by omega) (Nat.le_of_ble_eq_true rfl) (Nat.le_of_ble_eq_true rfl) (by decide +kernel) (fun q5 => ?_)
  show kW C 10 341 47 la [.ref q5, .ref a] ((((([(a, .inr (2, [.ref (f1 0), .ref (f2 0), .ref q3, .ref q4, .null, .null, .null, .null, .int 0, .int 0]))] ++ mkF_8 (kcy C) f1) ++ mkF_11 (kcy C) f2) ++ [(q3, .inl (kcy C 0, kza 0 64))]) ++ [(q4, .inl (kcy C 0, kza 0 6))]) ++ [(q5, .inl (kcy C 0, kza 0 99))])
  refine kx_put hC hin (ci := 2) (b := 4) (q0 := 0) (px_gw (p := 2033) rfl rfl) (by decide) (by decide +kernel) (by decide) rfl rfl rfl (Nat.le_of_ble_eq_true rfl) (by decide +kernel) ?_
  show kW C 10 341 50 la [] ((((([(a, .inr (2, [.ref (f1 0), .ref (f2 0), .ref q3, .ref q4, .ref q5, .null, .null, .null, .int 0, .int 0]))] ++ mkF_8 (kcy C) f1) ++ mkF_11 (kcy C) f2) ++ [(q3, .inl (kcy C 0, kza 0 64))]) ++ [(q4, .inl (kcy C 0, kza 0 6))]) ++ [(q5, .inl (kcy C 0, kza 0 99))])
  refine kx_al hC hl 0 (k := 0) rfl rfl (by decide +kernel) ?_
  refine kx_new hC (ci := 10) (by decide) rfl (px_gw (p := 2027) rfl rfl) (px_gw (p := 1065) rfl rfl) (px_gw (p := 1004) rfl rfl) (by decide +kernel) (Nat.le_of_ble_eq_true rfl) (Nat.le_of_ble_eq_true rfl) (by decide +kernel) (fun q6 => ?_)
  show kW C 11 346 54 la [.ref q6, .ref a] (((((([(a, .inr (2, [.ref (f1 0), .ref (f2 0), .ref q3, .ref q4, .ref q5, .null, .null, .null, .int 0, .int 0]))] ++ mkF_8 (kcy C) f1) ++ mkF_11 (kcy C) f2) ++ [(q3, .inl (kcy C 0, kza 0 64))]) ++ [(q4, .inl (kcy C 0, kza 0 6))]) ++ [(q5, .inl (kcy C 0, kza 0 99))]) ++ [(q6, .inr (10, kz 10))])
  refine kx_dup hC (by decide +kernel) rfl ?_
  refine kx_call hC kM_10 rfl rfl (px_gw (p := 1068) rfl rfl) (px_gw (p := 1004) rfl rfl) (px_gw (p := 1067) rfl rfl) (px_gw (p := 2028) rfl rfl) (by decide +kernel) rfl (by omega) (Nat.le_of_ble_eq_true rfl) (Nat.le_of_ble_eq_true rfl) hl.1 (Nat.le_of_ble_eq_true rfl) (by decide +kernel) (fun f6 e6 => ?_)
  subst e6
  show kW C 14 1259 58 la [.ref (f6 0), .ref a] (((((([(a, .inr (2, [.ref (f1 0), .ref (f2 0), .ref q3, .ref q4, .ref q5, .null, .null, .null, .int 0, .int 0]))] ++ mkF_8 (kcy C) f1) ++ mkF_11 (kcy C) f2) ++ [(q3, .inl (kcy C 0, kza 0 64))]) ++ [(q4, .inl (kcy C 0, kza 0 6))]) ++ [(q5, .inl (kcy C 0, kza 0 99))]) ++ mkF_10 (kcy C) f6)
  refine kx_put hC hin (ci := 2) (b := 5) (q0 := 0) (px_gw (p := 2034) rfl rfl) (by decide) (by decide +kernel) (by decide) rfl rfl rfl (Nat.le_of_ble_eq_true rfl) (by decide +kernel) ?_
  show kW C 14 1259 61 la [] (((((([(a, .inr (2, [.ref (f1 0), .ref (f2 0), .ref q3, .ref q4, .ref q5, .ref (f6 0), .null, .null, .int 0, .int 0]))] ++ mkF_8 (kcy C) f1) ++ mkF_11 (kcy C) f2) ++ [(q3, .inl (kcy C 0, kza 0 64))]) ++ [(q4, .inl (kcy C 0, kza 0 6))]) ++ [(q5, .inl (kcy C 0, kza 0 99))]) ++ mkF_10 (kcy C) f6)
  refine kx_al hC hl 0 (k := 0) rfl rfl (by decide +kernel) ?_
  refine kx_new hC (ci := 11) (by decide) rfl (px_gw (p := 2025) rfl rfl) (px_gw (p := 1037) rfl rfl) (px_gw (p := 1003) rfl rfl) (by decide +kernel) (Nat.le_of_ble_eq_true rfl) (Nat.le_of_ble_eq_true rfl) (by decide +kernel) (fun q7 => ?_)
  show kW C 15 1261 65 la [.ref q7, .ref a] ((((((([(a, .inr (2, [.ref (f1 0), .ref (f2 0), .ref q3, .ref q4, .ref q5, .ref (f6 0), .null, .null, .int 0, .int 0]))] ++ mkF_8 (kcy C) f1) ++ mkF_11 (kcy C) f2) ++ [(q3, .inl (kcy C 0, kza 0 64))]) ++ [(q4, .inl (kcy C 0, kza 0 6))]) ++ [(q5, .inl (kcy C 0, kza 0 99))]) ++ mkF_10 (kcy C) f6) ++ [(q7, .inr (11, kz 11))])
  refine kx_dup hC (by decide +kernel) rfl ?_
  refine kx_call hC kM_11 rfl rfl (px_gw (p := 1040) rfl rfl) (px_gw (p := 1003) rfl rfl) (px_gw (p := 1039) rfl rfl) (px_gw (p := 2026) rfl rfl) (by decide +kernel) rfl (by omega) (Nat.le_of_ble_eq_true rfl) (Nat.le_of_ble_eq_true rfl) hl.1 (Nat.le_of_ble_eq_true rfl) (by decide +kernel) (fun f7 e7 => ?_)
  subst e7
  show kW C 16 1272 69 la [.ref (f7 0), .ref a] ((((((([(a, .inr (2, [.ref (f1 0), .ref (f2 0), .ref q3, .ref q4, .ref q5, .ref (f6 0), .null, .null, .int 0, .int 0]))] ++ mkF_8 (kcy C) f1) ++ mkF_11 (kcy C) f2) ++ [(q3, .inl (kcy C 0, kza 0 64))]) ++ [(q4, .inl (kcy C 0, kza 0 6))]) ++ [(q5, .inl (kcy C 0, kza 0 99))]) ++ mkF_10 (kcy C) f6) ++ mkF_11 (kcy C) f7)
  refine kx_put hC hin (ci := 2) (b := 6) (q0 := 0) (px_gw (p := 2035) rfl rfl) (by decide) (by decide +kernel) (by decide) rfl rfl rfl (Nat.le_of_ble_eq_true rfl) (by decide +kernel) ?_
  show kW C 16 1272 72 la [] ((((((([(a, .inr (2, [.ref (f1 0), .ref (f2 0), .ref q3, .ref q4, .ref q5, .ref (f6 0), .ref (f7 0), .null, .int 0, .int 0]))] ++ mkF_8 (kcy C) f1) ++ mkF_11 (kcy C) f2) ++ [(q3, .inl (kcy C 0, kza 0 64))]) ++ [(q4, .inl (kcy C 0, kza 0 6))]) ++ [(q5, .inl (kcy C 0, kza 0 99))]) ++ mkF_10 (kcy C) f6) ++ mkF_11 (kcy C) f7)
  refine kx_al hC hl 0 (k := 0) rfl rfl (by decide +kernel) ?_
  refine kx_al hC hl 0 (k := 0) rfl rfl (by decide +kernel) ?_
  refine kx_get hC (ci := 2) (b := 1) (q0 := 0) (v := .ref (f2 0)) (px_gw (p := 2030) rfl rfl) (by decide) (by decide) rfl rfl (by decide +kernel) ?_
  refine kx_put hC hin (ci := 2) (b := 7) (q0 := 0) (px_gw (p := 2036) rfl rfl) (by decide) (by decide +kernel) (by decide) rfl rfl rfl (Nat.le_of_ble_eq_true rfl) (by decide +kernel) ?_
  show kW C 16 1272 80 la [] ((((((([(a, .inr (2, [.ref (f1 0), .ref (f2 0), .ref q3, .ref q4, .ref q5, .ref (f6 0), .ref (f7 0), .ref (f2 0), .int 0, .int 0]))] ++ mkF_8 (kcy C) f1) ++ mkF_11 (kcy C) f2) ++ [(q3, .inl (kcy C 0, kza 0 64))]) ++ [(q4, .inl (kcy C 0, kza 0 6))]) ++ [(q5, .inl (kcy C 0, kza 0 99))]) ++ mkF_10 (kcy C) f6) ++ mkF_11 (kcy C) f7)
  refine kx_al hC hl 0 (k := 0) rfl rfl (by decide +kernel) ?_
  refine kx_int hC (v := nI 0) (by decide +kernel) (Or.inl ⟨0, rfl, rfl, by decide⟩) ?_
  refine kx_put hC hin (ci := 2) (b := 8) (q0 := 0) (px_gw (p := 2037) rfl rfl) (by decide) (by decide +kernel) (by decide) rfl rfl rfl (Nat.le_of_ble_eq_true rfl) (by decide +kernel) ?_
  show kW C 16 1272 85 la [] ((((((([(a, .inr (2, [.ref (f1 0), .ref (f2 0), .ref q3, .ref q4, .ref q5, .ref (f6 0), .ref (f7 0), .ref (f2 0), .int (nI 0), .int 0]))] ++ mkF_8 (kcy C) f1) ++ mkF_11 (kcy C) f2) ++ [(q3, .inl (kcy C 0, kza 0 64))]) ++ [(q4, .inl (kcy C 0, kza 0 6))]) ++ [(q5, .inl (kcy C 0, kza 0 99))]) ++ mkF_10 (kcy C) f6) ++ mkF_11 (kcy C) f7)
  refine kx_al hC hl 0 (k := 0) rfl rfl (by decide +kernel) ?_
  refine kx_int hC (v := nI 0) (by decide +kernel) (Or.inl ⟨0, rfl, rfl, by decide⟩) ?_
  refine kx_put hC hin (ci := 2) (b := 9) (q0 := 0) (px_gw (p := 2038) rfl rfl) (by decide) (by decide +kernel) (by decide) rfl rfl rfl (Nat.le_of_ble_eq_true rfl) (by decide +kernel) ?_
  show kW C 16 1272 90 la [] ((((((([(a, .inr (2, [.ref (f1 0), .ref (f2 0), .ref q3, .ref q4, .ref q5, .ref (f6 0), .ref (f7 0), .ref (f2 0), .int (nI 0), .int (nI 0)]))] ++ mkF_8 (kcy C) f1) ++ mkF_11 (kcy C) f2) ++ [(q3, .inl (kcy C 0, kza 0 64))]) ++ [(q4, .inl (kcy C 0, kza 0 6))]) ++ [(q5, .inl (kcy C 0, kza 0 99))]) ++ mkF_10 (kcy C) f6) ++ mkF_11 (kcy C) f7)
  exact hret 90 la (fun k => if k = 0 then a else if k < 6 then f1 (k - 1) else if k < 8 then f2 (k - 6) else if k < 9 then q3 else if k < 10 then q4 else if k < 11 then q5 else if k < 15 then f6 (k - 11) else f7 (k - 15)) (by decide +kernel) rfl
