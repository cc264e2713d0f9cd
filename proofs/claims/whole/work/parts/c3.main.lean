/-! the class's own maker: printed by wip/whole/gencon2.py -/
theorem mkF_11_cg {cy : Nat → ClassId} {f g : Nat → Nat} (h : ∀ k, k < 2 → f k = g k) : mkF_11 cy f = mkF_11 cy g := by
  unfold mkF_11
  rw [h 0 (by omega), h 1 (by omega)]
theorem mkF_10_cg {cy : Nat → ClassId} {f g : Nat → Nat} (h : ∀ k, k < 4 → f k = g k) : mkF_10 cy f = mkF_10 cy g := by
  unfold mkF_10
  rw [h 0 (by omega), h 1 (by omega), h 2 (by omega), h 3 (by omega)]
theorem mkF_3_cg {cy : Nat → ClassId} {f g : Nat → Nat} (h : ∀ k, k < 2 → f k = g k) : mkF_3 cy f = mkF_3 cy g := by
  unfold mkF_3
  rw [h 0 (by omega), h 1 (by omega)]
theorem mkF_1_cg {cy : Nat → ClassId} {f g : Nat → Nat} (h : ∀ k, k < 8 → f k = g k) : mkF_1 cy f = mkF_1 cy g := by
  unfold mkF_1
  rw [h 0 (by omega), h 1 (by omega), h 3 (by omega), h 7 (by omega), mkF_11_cg (f := fun k => f (1 + k)) (g := fun k => g (1 + k)) (fun k hk => h (1 + k) (by omega)), mkF_10_cg (f := fun k => f (3 + k)) (g := fun k => g (3 + k)) (fun k hk => h (3 + k) (by omega))]
theorem mkF_8_cg {cy : Nat → ClassId} {f g : Nat → Nat} (h : ∀ k, k < 5 → f k = g k) : mkF_8 cy f = mkF_8 cy g := by
  unfold mkF_8
  rw [h 0 (by omega), h 1 (by omega), h 2 (by omega), h 3 (by omega), mkF_11_cg (f := fun k => f (3 + k)) (g := fun k => g (3 + k)) (fun k hk => h (3 + k) (by omega))]
theorem mkF_4_cg {cy : Nat → ClassId} {f g : Nat → Nat} (h : ∀ k, k < 7 → f k = g k) : mkF_4 cy f = mkF_4 cy g := by
  unfold mkF_4
  rw [h 0 (by omega), h 1 (by omega), h 3 (by omega), h 4 (by omega), h 5 (by omega), mkF_3_cg (f := fun k => f (1 + k)) (g := fun k => g (1 + k)) (fun k hk => h (1 + k) (by omega)), mkF_11_cg (f := fun k => f (5 + k)) (g := fun k => g (5 + k)) (fun k hk => h (5 + k) (by omega))]
theorem mkF_6_cg {cy : Nat → ClassId} {f g : Nat → Nat} (h : ∀ k, k < 6 → f k = g k) : mkF_6 cy f = mkF_6 cy g := by
  unfold mkF_6
  rw [h 0 (by omega), h 1 (by omega), h 2 (by omega), h 4 (by omega), mkF_11_cg (f := fun k => f (2 + k)) (g := fun k => g (2 + k)) (fun k hk => h (2 + k) (by omega)), mkF_11_cg (f := fun k => f (4 + k)) (g := fun k => g (4 + k)) (fun k hk => h (4 + k) (by omega))]
theorem mkF_5_cg {cy : Nat → ClassId} {f g : Nat → Nat} (h : ∀ k, k < 3 → f k = g k) : mkF_5 cy f = mkF_5 cy g := by
  unfold mkF_5
  rw [h 0 (by omega), h 1 (by omega), mkF_11_cg (f := fun k => f (1 + k)) (g := fun k => g (1 + k)) (fun k hk => h (1 + k) (by omega))]
theorem mkF_7_cg {cy : Nat → ClassId} {f g : Nat → Nat} (h : ∀ k, k < 5 → f k = g k) : mkF_7 cy f = mkF_7 cy g := by
  unfold mkF_7
  rw [h 0 (by omega), h 1 (by omega), h 3 (by omega), mkF_11_cg (f := fun k => f (1 + k)) (g := fun k => g (1 + k)) (fun k hk => h (1 + k) (by omega)), mkF_11_cg (f := fun k => f (3 + k)) (g := fun k => g (3 + k)) (fun k hk => h (3 + k) (by omega))]
theorem mkF_9_cg {cy : Nat → ClassId} {f g : Nat → Nat} (h : ∀ k, k < 18 → f k = g k) : mkF_9 cy f = mkF_9 cy g := by
  unfold mkF_9
  rw [h 0 (by omega), h 1 (by omega), h 2 (by omega), h 3 (by omega), h 10 (by omega), mkF_1_cg (f := fun k => f (10 + k)) (g := fun k => g (10 + k)) (fun k hk => h (10 + k) (by omega))]
theorem mkF_2_cg {cy : Nat → ClassId} {f g : Nat → Nat} (h : ∀ k, k < 17 → f k = g k) : mkF_2 cy f = mkF_2 cy g := by
  unfold mkF_2
  rw [h 0 (by omega), h 1 (by omega), h 6 (by omega), h 8 (by omega), h 9 (by omega), h 10 (by omega), h 11 (by omega), h 15 (by omega), mkF_8_cg (f := fun k => f (1 + k)) (g := fun k => g (1 + k)) (fun k hk => h (1 + k) (by omega)), mkF_11_cg (f := fun k => f (6 + k)) (g := fun k => g (6 + k)) (fun k hk => h (6 + k) (by omega)), mkF_10_cg (f := fun k => f (11 + k)) (g := fun k => g (11 + k)) (fun k hk => h (11 + k) (by omega)), mkF_11_cg (f := fun k => f (15 + k)) (g := fun k => g (15 + k)) (fun k hk => h (15 + k) (by omega))]
def mkF_12 (cy : Nat → ClassId) (f : Nat → Nat) : va_W := (f 0, .inr (12, [.ref (f 10), .ref (f 20), .ref (f 30), .ref (f 2), .ref (f 50), .ref (f 60), .ref (f 70), .ref (f 80), .ref (f 90), .ref (f 100), .ref (f 110), .ref (f 130), .ref (f 140), .ref (f 3), .ref (f 4), .ref (f 5)])) :: ([((f 5), .inl (cy 0, (4, .inl (upd (upd (upd (upd (fun _ => 0) (nI 0).toNatClampNeg (-1)) (nI 1).toNatClampNeg (-1)) (nI 2).toNatClampNeg (-1)) (nI 3).toNatClampNeg (-1)))))] ++ (((f 4), .inl (cy 0, kza 0 4)) :: (((f 3), .inl (cy 3, kza 3 160)) :: (mkF_11 cy (fun k => f (140 + k)) ++ (mkF_7 cy (fun k => f (130 + k)) ++ (mkF_2 cy (fun k => f (110 + k)) ++ (mkF_5 cy (fun k => f (100 + k)) ++ (mkF_6 cy (fun k => f (90 + k)) ++ (mkF_4 cy (fun k => f (80 + k)) ++ (mkF_8 cy (fun k => f (70 + k)) ++ (mkF_3 cy (fun k => f (60 + k)) ++ (mkF_9 cy (fun k => f (if k < 10 then 50 + k else 30 + k)) ++ (((f 2), .inl (cy 2, kza 2 2)) :: (mkF_1 cy (fun k => f (30 + k)) ++ (mkF_1 cy (fun k => f (20 + k)) ++ (mkF_1 cy (fun k => f (10 + k)) ++ []))))))))))))))))
set_option maxHeartbeats 40000000 in
set_option maxRecDepth 100000 in
theorem kM_12 : kM pn_i12001 12 4 87 14921 mkF_12 := by
  refine kx_enter (by decide +kernel) rfl rfl rfl (by decide) (fun C a la hC hin hl hret => ?_)
  refine kx_al hC hl 0 (k := 0) rfl rfl (by decide +kernel) ?_
  refine kx_obj hC (px_gw (p := 1027) rfl rfl) (px_gw (p := 1028) rfl rfl) (px_gw (p := 1029) rfl rfl) hl.1 (by omega) (by decide +kernel) ?_
  show kW C 0 0 4 la [] ((a, .inr (12, [.null, .null, .null, .null, .null, .null, .null, .null, .null, .null, .null, .null, .null, .null, .null, .null])) :: ([] ++ []))
  refine kx_sub hC hin hl (o := []) (ci := 12) (b := 0) (cj := 1) kM_1 (by decide) (by decide) rfl rfl rfl rfl (by decide +kernel) (by decide +kernel) (px_gw (p := 1030) rfl rfl) (px_gw (p := 1031) rfl rfl) (px_gw (p := 1002) rfl rfl) (px_gw (p := 1034) rfl rfl) (px_gw (p := 1002) rfl rfl) (px_gw (p := 1033) rfl rfl) (px_gw (p := 1032) rfl rfl) (px_gw (p := 2078) rfl rfl) (by decide +kernel) (by decide) (fun _ => rfl) (fun _ => rfl) (Nat.le_of_ble_eq_true rfl) (by omega) (Nat.le_of_ble_eq_true rfl) (Nat.le_of_ble_eq_true rfl) (Nat.le_of_ble_eq_true rfl) (Nat.le_of_ble_eq_true rfl) (by decide +kernel) (by decide +kernel) (by decide +kernel) (by decide +kernel) (by decide +kernel) (fun f1 => ?_)
  show kW C 8 1081 15 la [] ((a, .inr (12, [.ref (f1 0), .null, .null, .null, .null, .null, .null, .null, .null, .null, .null, .null, .null, .null, .null, .null])) :: ([] ++ (mkF_1 (kcy C) f1 ++ [])))
  refine kx_sub hC hin hl (o := []) (ci := 12) (b := 1) (cj := 1) kM_1 (by decide) (by decide) rfl rfl rfl rfl (by decide +kernel) (by decide +kernel) (px_gw (p := 1030) rfl rfl) (px_gw (p := 1031) rfl rfl) (px_gw (p := 1002) rfl rfl) (px_gw (p := 1034) rfl rfl) (px_gw (p := 1002) rfl rfl) (px_gw (p := 1033) rfl rfl) (px_gw (p := 1032) rfl rfl) (px_gw (p := 2079) rfl rfl) (by decide +kernel) (by decide) (fun _ => rfl) (fun _ => rfl) (Nat.le_of_ble_eq_true rfl) (by omega) (Nat.le_of_ble_eq_true rfl) (Nat.le_of_ble_eq_true rfl) (Nat.le_of_ble_eq_true rfl) (Nat.le_of_ble_eq_true rfl) (by decide +kernel) (by decide +kernel) (by decide +kernel) (by decide +kernel) (by decide +kernel) (fun f2 => ?_)
  show kW C 16 2162 26 la [] ((a, .inr (12, [.ref (f1 0), .ref (f2 0), .null, .null, .null, .null, .null, .null, .null, .null, .null, .null, .null, .null, .null, .null])) :: ([] ++ (mkF_1 (kcy C) f2 ++ (mkF_1 (kcy C) f1 ++ []))))
  refine kx_sub hC hin hl (o := []) (ci := 12) (b := 2) (cj := 1) kM_1 (by decide) (by decide) rfl rfl rfl rfl (by decide +kernel) (by decide +kernel) (px_gw (p := 1030) rfl rfl) (px_gw (p := 1031) rfl rfl) (px_gw (p := 1002) rfl rfl) (px_gw (p := 1034) rfl rfl) (px_gw (p := 1002) rfl rfl) (px_gw (p := 1033) rfl rfl) (px_gw (p := 1032) rfl rfl) (px_gw (p := 2080) rfl rfl) (by decide +kernel) (by decide) (fun _ => rfl) (fun _ => rfl) (Nat.le_of_ble_eq_true rfl) (by omega) (Nat.le_of_ble_eq_true rfl) (Nat.le_of_ble_eq_true rfl) (Nat.le_of_ble_eq_true rfl) (Nat.le_of_ble_eq_true rfl) (by decide +kernel) (by decide +kernel) (by decide +kernel) (by decide +kernel) (by decide +kernel) (fun f3 => ?_)
  show kW C 24 3243 37 la [] ((a, .inr (12, [.ref (f1 0), .ref (f2 0), .ref (f3 0), .null, .null, .null, .null, .null, .null, .null, .null, .null, .null, .null, .null, .null])) :: ([] ++ (mkF_1 (kcy C) f3 ++ (mkF_1 (kcy C) f2 ++ (mkF_1 (kcy C) f1 ++ [])))))
  refine kx_al hC hl 0 (k := 0) rfl rfl (by decide +kernel) ?_
  refine kx_int hC (v := nI 2) (by decide +kernel) (Or.inl ⟨2, rfl, rfl, by decide⟩) ?_
  refine kx_newa hC (t := 2) (at0 := .boolean) (Or.inr (Or.inr (Or.inl ⟨rfl, rfl⟩))) (px_gw (p := 1161) rfl rfl) (by omega) (Nat.le_of_ble_eq_true rfl) (Nat.le_of_ble_eq_true rfl) (by decide +kernel) (fun q4 => ?_)
  refine kx_perm (kx_mv _ [] _ _) ?_
  refine kx_put hC hin (ci := 12) (b := 3) (q0 := 0) (px_gw (p := 2081) rfl rfl) (by decide) (by decide +kernel) (by decide) rfl rfl rfl (Nat.le_of_ble_eq_true rfl) (by decide +kernel) ?_
  show kW C 25 3245 44 la [] ((a, .inr (12, [.ref (f1 0), .ref (f2 0), .ref (f3 0), .ref q4, .null, .null, .null, .null, .null, .null, .null, .null, .null, .null, .null, .null])) :: ([] ++ ((q4, .inl (kcy C 2, kza 2 2)) :: (mkF_1 (kcy C) f3 ++ (mkF_1 (kcy C) f2 ++ (mkF_1 (kcy C) f1 ++ []))))))
  refine kx_sub hC hin hl (o := []) (ci := 12) (b := 4) (cj := 9) kM_9 (by decide) (by decide) rfl rfl rfl rfl (by decide +kernel) (by decide +kernel) (px_gw (p := 1118) rfl rfl) (px_gw (p := 1119) rfl rfl) (px_gw (p := 1005) rfl rfl) (px_gw (p := 1122) rfl rfl) (px_gw (p := 1005) rfl rfl) (px_gw (p := 1121) rfl rfl) (px_gw (p := 1120) rfl rfl) (px_gw (p := 2082) rfl rfl) (by decide +kernel) (by decide) (fun _ => rfl) (fun _ => rfl) (Nat.le_of_ble_eq_true rfl) (by omega) (Nat.le_of_ble_eq_true rfl) (Nat.le_of_ble_eq_true rfl) (Nat.le_of_ble_eq_true rfl) (Nat.le_of_ble_eq_true rfl) (by decide +kernel) (by decide +kernel) (by decide +kernel) (by decide +kernel) (by decide +kernel) (fun f5 => ?_)
  show kW C 37 7038 55 la [] ((a, .inr (12, [.ref (f1 0), .ref (f2 0), .ref (f3 0), .ref q4, .ref (f5 0), .null, .null, .null, .null, .null, .null, .null, .null, .null, .null, .null])) :: ([] ++ (mkF_9 (kcy C) f5 ++ ((q4, .inl (kcy C 2, kza 2 2)) :: (mkF_1 (kcy C) f3 ++ (mkF_1 (kcy C) f2 ++ (mkF_1 (kcy C) f1 ++ [])))))))
  refine kx_sub hC hin hl (o := []) (ci := 12) (b := 5) (cj := 3) kM_3 (by decide) (by decide) rfl rfl rfl rfl (by decide +kernel) (by decide +kernel) (px_gw (p := 1163) rfl rfl) (px_gw (p := 1164) rfl rfl) (px_gw (p := 1006) rfl rfl) (px_gw (p := 1167) rfl rfl) (px_gw (p := 1006) rfl rfl) (px_gw (p := 1166) rfl rfl) (px_gw (p := 1165) rfl rfl) (px_gw (p := 2083) rfl rfl) (by decide +kernel) (by decide) (fun _ => rfl) (fun _ => rfl) (Nat.le_of_ble_eq_true rfl) (by omega) (Nat.le_of_ble_eq_true rfl) (Nat.le_of_ble_eq_true rfl) (Nat.le_of_ble_eq_true rfl) (Nat.le_of_ble_eq_true rfl) (by decide +kernel) (by decide +kernel) (by decide +kernel) (by decide +kernel) (by decide +kernel) (fun f6 => ?_)
  show kW C 39 9088 66 la [] ((a, .inr (12, [.ref (f1 0), .ref (f2 0), .ref (f3 0), .ref q4, .ref (f5 0), .ref (f6 0), .null, .null, .null, .null, .null, .null, .null, .null, .null, .null])) :: ([] ++ (mkF_3 (kcy C) f6 ++ (mkF_9 (kcy C) f5 ++ ((q4, .inl (kcy C 2, kza 2 2)) :: (mkF_1 (kcy C) f3 ++ (mkF_1 (kcy C) f2 ++ (mkF_1 (kcy C) f1 ++ []))))))))
  refine kx_sub hC hin hl (o := []) (ci := 12) (b := 6) (cj := 8) kM_8 (by decide) (by decide) rfl rfl rfl rfl (by decide +kernel) (by decide +kernel) (px_gw (p := 1176) rfl rfl) (px_gw (p := 1177) rfl rfl) (px_gw (p := 1007) rfl rfl) (px_gw (p := 1180) rfl rfl) (px_gw (p := 1007) rfl rfl) (px_gw (p := 1179) rfl rfl) (px_gw (p := 1178) rfl rfl) (px_gw (p := 2084) rfl rfl) (by decide +kernel) (by decide) (fun _ => rfl) (fun _ => rfl) (Nat.le_of_ble_eq_true rfl) (by omega) (Nat.le_of_ble_eq_true rfl) (Nat.le_of_ble_eq_true rfl) (Nat.le_of_ble_eq_true rfl) (Nat.le_of_ble_eq_true rfl) (by decide +kernel) (by decide +kernel) (by decide +kernel) (by decide +kernel) (by decide +kernel) (fun f7 => ?_)
  show kW C 44 9247 77 la [] ((a, .inr (12, [.ref (f1 0), .ref (f2 0), .ref (f3 0), .ref q4, .ref (f5 0), .ref (f6 0), .ref (f7 0), .null, .null, .null, .null, .null, .null, .null, .null, .null])) :: ([] ++ (mkF_8 (kcy C) f7 ++ (mkF_3 (kcy C) f6 ++ (mkF_9 (kcy C) f5 ++ ((q4, .inl (kcy C 2, kza 2 2)) :: (mkF_1 (kcy C) f3 ++ (mkF_1 (kcy C) f2 ++ (mkF_1 (kcy C) f1 ++ [])))))))))
  refine kx_sub hC hin hl (o := []) (ci := 12) (b := 7) (cj := 4) kM_4 (by decide) (by decide) rfl rfl rfl rfl (by decide +kernel) (by decide +kernel) (px_gw (p := 1194) rfl rfl) (px_gw (p := 1195) rfl rfl) (px_gw (p := 1008) rfl rfl) (px_gw (p := 1198) rfl rfl) (px_gw (p := 1008) rfl rfl) (px_gw (p := 1197) rfl rfl) (px_gw (p := 1196) rfl rfl) (px_gw (p := 2085) rfl rfl) (by decide +kernel) (by decide) (fun _ => rfl) (fun _ => rfl) (Nat.le_of_ble_eq_true rfl) (by omega) (Nat.le_of_ble_eq_true rfl) (Nat.le_of_ble_eq_true rfl) (Nat.le_of_ble_eq_true rfl) (Nat.le_of_ble_eq_true rfl) (by decide +kernel) (by decide +kernel) (by decide +kernel) (by decide +kernel) (by decide +kernel) (fun f8 => ?_)
  show kW C 51 13374 88 la [] ((a, .inr (12, [.ref (f1 0), .ref (f2 0), .ref (f3 0), .ref q4, .ref (f5 0), .ref (f6 0), .ref (f7 0), .ref (f8 0), .null, .null, .null, .null, .null, .null, .null, .null])) :: ([] ++ (mkF_4 (kcy C) f8 ++ (mkF_8 (kcy C) f7 ++ (mkF_3 (kcy C) f6 ++ (mkF_9 (kcy C) f5 ++ ((q4, .inl (kcy C 2, kza 2 2)) :: (mkF_1 (kcy C) f3 ++ (mkF_1 (kcy C) f2 ++ (mkF_1 (kcy C) f1 ++ []))))))))))
  refine kx_sub hC hin hl (o := []) (ci := 12) (b := 8) (cj := 6) kM_6 (by decide) (by decide) rfl rfl rfl rfl (by decide +kernel) (by decide +kernel) (px_gw (p := 1220) rfl rfl) (px_gw (p := 1221) rfl rfl) (px_gw (p := 1009) rfl rfl) (px_gw (p := 1224) rfl rfl) (px_gw (p := 1009) rfl rfl) (px_gw (p := 1223) rfl rfl) (px_gw (p := 1222) rfl rfl) (px_gw (p := 2086) rfl rfl) (by decide +kernel) (by decide) (fun _ => rfl) (fun _ => rfl) (Nat.le_of_ble_eq_true rfl) (by omega) (Nat.le_of_ble_eq_true rfl) (Nat.le_of_ble_eq_true rfl) (Nat.le_of_ble_eq_true rfl) (Nat.le_of_ble_eq_true rfl) (by decide +kernel) (by decide +kernel) (by decide +kernel) (by decide +kernel) (by decide +kernel) (fun f9 => ?_)
  show kW C 57 13415 99 la [] ((a, .inr (12, [.ref (f1 0), .ref (f2 0), .ref (f3 0), .ref q4, .ref (f5 0), .ref (f6 0), .ref (f7 0), .ref (f8 0), .ref (f9 0), .null, .null, .null, .null, .null, .null, .null])) :: ([] ++ (mkF_6 (kcy C) f9 ++ (mkF_4 (kcy C) f8 ++ (mkF_8 (kcy C) f7 ++ (mkF_3 (kcy C) f6 ++ (mkF_9 (kcy C) f5 ++ ((q4, .inl (kcy C 2, kza 2 2)) :: (mkF_1 (kcy C) f3 ++ (mkF_1 (kcy C) f2 ++ (mkF_1 (kcy C) f1 ++ [])))))))))))
  refine kx_sub hC hin hl (o := []) (ci := 12) (b := 9) (cj := 5) kM_5 (by decide) (by decide) rfl rfl rfl rfl (by decide +kernel) (by decide +kernel) (px_gw (p := 2001) rfl rfl) (px_gw (p := 2002) rfl rfl) (px_gw (p := 1010) rfl rfl) (px_gw (p := 2005) rfl rfl) (px_gw (p := 1010) rfl rfl) (px_gw (p := 2004) rfl rfl) (px_gw (p := 2003) rfl rfl) (px_gw (p := 2087) rfl rfl) (by decide +kernel) (by decide) (fun _ => rfl) (fun _ => rfl) (Nat.le_of_ble_eq_true rfl) (by omega) (Nat.le_of_ble_eq_true rfl) (Nat.le_of_ble_eq_true rfl) (Nat.le_of_ble_eq_true rfl) (Nat.le_of_ble_eq_true rfl) (by decide +kernel) (by decide +kernel) (by decide +kernel) (by decide +kernel) (by decide +kernel) (fun f10 => ?_)
  show kW C 60 13430 110 la [] ((a, .inr (12, [.ref (f1 0), .ref (f2 0), .ref (f3 0), .ref q4, .ref (f5 0), .ref (f6 0), .ref (f7 0), .ref (f8 0), .ref (f9 0), .ref (f10 0), .null, .null, .null, .null, .null, .null])) :: ([] ++ (mkF_5 (kcy C) f10 ++ (mkF_6 (kcy C) f9 ++ (mkF_4 (kcy C) f8 ++ (mkF_8 (kcy C) f7 ++ (mkF_3 (kcy C) f6 ++ (mkF_9 (kcy C) f5 ++ ((q4, .inl (kcy C 2, kza 2 2)) :: (mkF_1 (kcy C) f3 ++ (mkF_1 (kcy C) f2 ++ (mkF_1 (kcy C) f1 ++ []))))))))))))
  refine kx_sub hC hin hl (o := []) (ci := 12) (b := 10) (cj := 2) kM_2 (by decide) (by decide) rfl rfl rfl rfl (by decide +kernel) (by decide +kernel) (px_gw (p := 2017) rfl rfl) (px_gw (p := 2018) rfl rfl) (px_gw (p := 1011) rfl rfl) (px_gw (p := 2021) rfl rfl) (px_gw (p := 1011) rfl rfl) (px_gw (p := 2020) rfl rfl) (px_gw (p := 2019) rfl rfl) (px_gw (p := 2088) rfl rfl) (by decide +kernel) (by decide) (fun _ => rfl) (fun _ => rfl) (Nat.le_of_ble_eq_true rfl) (by omega) (Nat.le_of_ble_eq_true rfl) (Nat.le_of_ble_eq_true rfl) (Nat.le_of_ble_eq_true rfl) (Nat.le_of_ble_eq_true rfl) (by decide +kernel) (by decide +kernel) (by decide +kernel) (by decide +kernel) (by decide +kernel) (fun f11 => ?_)
  show kW C 77 14712 121 la [] ((a, .inr (12, [.ref (f1 0), .ref (f2 0), .ref (f3 0), .ref q4, .ref (f5 0), .ref (f6 0), .ref (f7 0), .ref (f8 0), .ref (f9 0), .ref (f10 0), .ref (f11 0), .null, .null, .null, .null, .null])) :: ([] ++ (mkF_2 (kcy C) f11 ++ (mkF_5 (kcy C) f10 ++ (mkF_6 (kcy C) f9 ++ (mkF_4 (kcy C) f8 ++ (mkF_8 (kcy C) f7 ++ (mkF_3 (kcy C) f6 ++ (mkF_9 (kcy C) f5 ++ ((q4, .inl (kcy C 2, kza 2 2)) :: (mkF_1 (kcy C) f3 ++ (mkF_1 (kcy C) f2 ++ (mkF_1 (kcy C) f1 ++ [])))))))))))))
  refine kx_sub hC hin hl (o := []) (ci := 12) (b := 11) (cj := 7) kM_7 (by decide) (by decide) rfl rfl rfl rfl (by decide +kernel) (by decide +kernel) (px_gw (p := 2060) rfl rfl) (px_gw (p := 2061) rfl rfl) (px_gw (p := 1012) rfl rfl) (px_gw (p := 2064) rfl rfl) (px_gw (p := 1012) rfl rfl) (px_gw (p := 2063) rfl rfl) (px_gw (p := 2062) rfl rfl) (px_gw (p := 2089) rfl rfl) (by decide +kernel) (by decide) (fun _ => rfl) (fun _ => rfl) (Nat.le_of_ble_eq_true rfl) (by omega) (Nat.le_of_ble_eq_true rfl) (Nat.le_of_ble_eq_true rfl) (Nat.le_of_ble_eq_true rfl) (Nat.le_of_ble_eq_true rfl) (by decide +kernel) (by decide +kernel) (by decide +kernel) (by decide +kernel) (by decide +kernel) (fun f12 => ?_)
  show kW C 82 14740 132 la [] ((a, .inr (12, [.ref (f1 0), .ref (f2 0), .ref (f3 0), .ref q4, .ref (f5 0), .ref (f6 0), .ref (f7 0), .ref (f8 0), .ref (f9 0), .ref (f10 0), .ref (f11 0), .ref (f12 0), .null, .null, .null, .null])) :: ([] ++ (mkF_7 (kcy C) f12 ++ (mkF_2 (kcy C) f11 ++ (mkF_5 (kcy C) f10 ++ (mkF_6 (kcy C) f9 ++ (mkF_4 (kcy C) f8 ++ (mkF_8 (kcy C) f7 ++ (mkF_3 (kcy C) f6 ++ (mkF_9 (kcy C) f5 ++ ((q4, .inl (kcy C 2, kza 2 2)) :: (mkF_1 (kcy C) f3 ++ (mkF_1 (kcy C) f2 ++ (mkF_1 (kcy C) f1 ++ []))))))))))))))
  refine kx_sub hC hin hl (o := []) (ci := 12) (b := 12) (cj := 11) kM_11 (by decide) (by decide) rfl rfl rfl rfl (by decide +kernel) (by decide +kernel) (px_gw (p := 2076) rfl rfl) (px_gw (p := 1037) rfl rfl) (px_gw (p := 1003) rfl rfl) (px_gw (p := 1040) rfl rfl) (px_gw (p := 1003) rfl rfl) (px_gw (p := 1039) rfl rfl) (px_gw (p := 2077) rfl rfl) (px_gw (p := 2090) rfl rfl) (by decide +kernel) (by decide) (fun _ => rfl) (fun _ => rfl) (Nat.le_of_ble_eq_true rfl) (by omega) (Nat.le_of_ble_eq_true rfl) (Nat.le_of_ble_eq_true rfl) (Nat.le_of_ble_eq_true rfl) (Nat.le_of_ble_eq_true rfl) (by decide +kernel) (by decide +kernel) (by decide +kernel) (by decide +kernel) (by decide +kernel) (fun f13 => ?_)
  show kW C 84 14753 143 la [] ((a, .inr (12, [.ref (f1 0), .ref (f2 0), .ref (f3 0), .ref q4, .ref (f5 0), .ref (f6 0), .ref (f7 0), .ref (f8 0), .ref (f9 0), .ref (f10 0), .ref (f11 0), .ref (f12 0), .ref (f13 0), .null, .null, .null])) :: ([] ++ (mkF_11 (kcy C) f13 ++ (mkF_7 (kcy C) f12 ++ (mkF_2 (kcy C) f11 ++ (mkF_5 (kcy C) f10 ++ (mkF_6 (kcy C) f9 ++ (mkF_4 (kcy C) f8 ++ (mkF_8 (kcy C) f7 ++ (mkF_3 (kcy C) f6 ++ (mkF_9 (kcy C) f5 ++ ((q4, .inl (kcy C 2, kza 2 2)) :: (mkF_1 (kcy C) f3 ++ (mkF_1 (kcy C) f2 ++ (mkF_1 (kcy C) f1 ++ [])))))))))))))))
  refine kx_al hC hl 0 (k := 0) rfl rfl (by decide +kernel) ?_
  refine kx_int hC (v := nI 160) (by decide +kernel) (Or.inr (Or.inr ⟨160, rfl, rfl, by decide⟩)) ?_
  refine kx_newa hC (t := 3) (at0 := .long) (Or.inr (Or.inr (Or.inr ⟨rfl, rfl⟩))) (px_gw (p := 2127) rfl rfl) (by omega) (Nat.le_of_ble_eq_true rfl) (Nat.le_of_ble_eq_true rfl) (by decide +kernel) (fun q14 => ?_)
  refine kx_perm (kx_mv _ [] _ _) ?_
  refine kx_put hC hin (ci := 12) (b := 13) (q0 := 0) (px_gw (p := 2091) rfl rfl) (by decide) (by decide +kernel) (by decide) rfl rfl rfl (Nat.le_of_ble_eq_true rfl) (by decide +kernel) ?_
  show kW C 85 14913 152 la [] ((a, .inr (12, [.ref (f1 0), .ref (f2 0), .ref (f3 0), .ref q4, .ref (f5 0), .ref (f6 0), .ref (f7 0), .ref (f8 0), .ref (f9 0), .ref (f10 0), .ref (f11 0), .ref (f12 0), .ref (f13 0), .ref q14, .null, .null])) :: ([] ++ ((q14, .inl (kcy C 3, kza 3 160)) :: (mkF_11 (kcy C) f13 ++ (mkF_7 (kcy C) f12 ++ (mkF_2 (kcy C) f11 ++ (mkF_5 (kcy C) f10 ++ (mkF_6 (kcy C) f9 ++ (mkF_4 (kcy C) f8 ++ (mkF_8 (kcy C) f7 ++ (mkF_3 (kcy C) f6 ++ (mkF_9 (kcy C) f5 ++ ((q4, .inl (kcy C 2, kza 2 2)) :: (mkF_1 (kcy C) f3 ++ (mkF_1 (kcy C) f2 ++ (mkF_1 (kcy C) f1 ++ []))))))))))))))))
  refine kx_al hC hl 0 (k := 0) rfl rfl (by decide +kernel) ?_
  refine kx_int hC (v := nI 4) (by decide +kernel) (Or.inl ⟨4, rfl, rfl, by decide⟩) ?_
  refine kx_newa hC (t := 0) (at0 := .int) (Or.inl ⟨rfl, rfl⟩) (px_gw (p := 1063) rfl rfl) (by omega) (Nat.le_of_ble_eq_true rfl) (Nat.le_of_ble_eq_true rfl) (by decide +kernel) (fun q15 => ?_)
  refine kx_perm (kx_mv _ [] _ _) ?_
  refine kx_put hC hin (ci := 12) (b := 14) (q0 := 0) (px_gw (p := 2092) rfl rfl) (by decide) (by decide +kernel) (by decide) rfl rfl rfl (Nat.le_of_ble_eq_true rfl) (by decide +kernel) ?_
  show kW C 86 14917 159 la [] ((a, .inr (12, [.ref (f1 0), .ref (f2 0), .ref (f3 0), .ref q4, .ref (f5 0), .ref (f6 0), .ref (f7 0), .ref (f8 0), .ref (f9 0), .ref (f10 0), .ref (f11 0), .ref (f12 0), .ref (f13 0), .ref q14, .ref q15, .null])) :: ([] ++ ((q15, .inl (kcy C 0, kza 0 4)) :: ((q14, .inl (kcy C 3, kza 3 160)) :: (mkF_11 (kcy C) f13 ++ (mkF_7 (kcy C) f12 ++ (mkF_2 (kcy C) f11 ++ (mkF_5 (kcy C) f10 ++ (mkF_6 (kcy C) f9 ++ (mkF_4 (kcy C) f8 ++ (mkF_8 (kcy C) f7 ++ (mkF_3 (kcy C) f6 ++ (mkF_9 (kcy C) f5 ++ ((q4, .inl (kcy C 2, kza 2 2)) :: (mkF_1 (kcy C) f3 ++ (mkF_1 (kcy C) f2 ++ (mkF_1 (kcy C) f1 ++ [])))))))))))))))))
  refine kx_al hC hl 0 (k := 0) rfl rfl (by decide +kernel) ?_
  refine kx_int hC (v := nI 4) (by decide +kernel) (Or.inl ⟨4, rfl, rfl, by decide⟩) ?_
  refine kx_newa hC (t := 0) (at0 := .int) (Or.inl ⟨rfl, rfl⟩) (px_gw (p := 1063) rfl rfl) (by omega) (Nat.le_of_ble_eq_true rfl) (Nat.le_of_ble_eq_true rfl) (by decide +kernel) (fun q16 => ?_)
  refine kx_perm (kx_mv _ [] _ _) ?_
  refine kx_put hC hin (ci := 12) (b := 15) (q0 := 0) (px_gw (p := 2093) rfl rfl) (by decide) (by decide +kernel) (by decide) rfl rfl rfl (Nat.le_of_ble_eq_true rfl) (by decide +kernel) ?_
  show kW C 87 14921 166 la [] ((a, .inr (12, [.ref (f1 0), .ref (f2 0), .ref (f3 0), .ref q4, .ref (f5 0), .ref (f6 0), .ref (f7 0), .ref (f8 0), .ref (f9 0), .ref (f10 0), .ref (f11 0), .ref (f12 0), .ref (f13 0), .ref q14, .ref q15, .ref q16])) :: ([(q16, .inl (kcy C 0, kza 0 4))] ++ ((q15, .inl (kcy C 0, kza 0 4)) :: ((q14, .inl (kcy C 3, kza 3 160)) :: (mkF_11 (kcy C) f13 ++ (mkF_7 (kcy C) f12 ++ (mkF_2 (kcy C) f11 ++ (mkF_5 (kcy C) f10 ++ (mkF_6 (kcy C) f9 ++ (mkF_4 (kcy C) f8 ++ (mkF_8 (kcy C) f7 ++ (mkF_3 (kcy C) f6 ++ (mkF_9 (kcy C) f5 ++ ((q4, .inl (kcy C 2, kza 2 2)) :: (mkF_1 (kcy C) f3 ++ (mkF_1 (kcy C) f2 ++ (mkF_1 (kcy C) f1 ++ [])))))))))))))))))
  refine kx_int hC (v := nI 0) (by decide +kernel) (Or.inl ⟨0, rfl, rfl, by decide⟩) ?_
  refine kx_ist hC (k := 1) (lv' := [(1, .int (nI 0)), (0, .ref a)]) hl (by decide +kernel) rfl (by decide) rfl (fun la hl => ?_)
  refine kx_ild hC (k := 1) hl 0 rfl rfl (by decide +kernel) ?_
  refine kx_int hC (v := nI 4) (by decide +kernel) (Or.inl ⟨4, rfl, rfl, by decide⟩) ?_
  refine kx_gen hC (off := 16) (tgt := 186) (by decide) (by decide +kernel) (by decide) ?_
  refine kx_al hC hl 1 (k := 0) rfl rfl (by decide +kernel) ?_
  refine kx_get hC (ci := 12) (b := 15) (q0 := 0) (v := .ref q16) (px_gw (p := 2093) rfl rfl) (by decide) (by decide) rfl rfl (by decide +kernel) ?_
  refine kx_ild hC (k := 1) hl 0 rfl rfl (by decide +kernel) ?_
  refine kx_int hC (v := -1) (by decide +kernel) (Or.inl ⟨-1, rfl, rfl, by decide⟩) ?_
  refine kx_iast hC 1 rfl ((vp_in_eq (by omega)).mpr (by omega)) (by decide +kernel) ?_
  show kW C 87 14921 180 la [] ((a, .inr (12, [.ref (f1 0), .ref (f2 0), .ref (f3 0), .ref q4, .ref (f5 0), .ref (f6 0), .ref (f7 0), .ref (f8 0), .ref (f9 0), .ref (f10 0), .ref (f11 0), .ref (f12 0), .ref (f13 0), .ref q14, .ref q15, .ref q16])) :: ([(q16, .inl (kcy C 0, (4, .inl (upd (fun _ => 0) (nI 0).toNatClampNeg (-1)))))] ++ ((q15, .inl (kcy C 0, kza 0 4)) :: ((q14, .inl (kcy C 3, kza 3 160)) :: (mkF_11 (kcy C) f13 ++ (mkF_7 (kcy C) f12 ++ (mkF_2 (kcy C) f11 ++ (mkF_5 (kcy C) f10 ++ (mkF_6 (kcy C) f9 ++ (mkF_4 (kcy C) f8 ++ (mkF_8 (kcy C) f7 ++ (mkF_3 (kcy C) f6 ++ (mkF_9 (kcy C) f5 ++ ((q4, .inl (kcy C 2, kza 2 2)) :: (mkF_1 (kcy C) f3 ++ (mkF_1 (kcy C) f2 ++ (mkF_1 (kcy C) f1 ++ [])))))))))))))))))
  refine kx_inc hC (i := 1) (n := 1) (v := nI 1) (lv' := [(1, .int (nI 1)), (0, .ref a)]) hl 0 rfl (by decide) (by decide) rfl (by decide +kernel) (fun la hl => ?_)
  refine kx_goto hC (off := -15) (tgt := 168) (by decide +kernel) (by decide) ?_
  refine kx_ild hC (k := 1) hl 0 rfl rfl (by decide +kernel) ?_
  refine kx_int hC (v := nI 4) (by decide +kernel) (Or.inl ⟨4, rfl, rfl, by decide⟩) ?_
  refine kx_gen hC (off := 16) (tgt := 186) (by decide) (by decide +kernel) (by decide) ?_
  refine kx_al hC hl 1 (k := 0) rfl rfl (by decide +kernel) ?_
  refine kx_get hC (ci := 12) (b := 15) (q0 := 0) (v := .ref q16) (px_gw (p := 2093) rfl rfl) (by decide) (by decide) rfl rfl (by decide +kernel) ?_
  refine kx_ild hC (k := 1) hl 0 rfl rfl (by decide +kernel) ?_
  refine kx_int hC (v := -1) (by decide +kernel) (Or.inl ⟨-1, rfl, rfl, by decide⟩) ?_
  refine kx_iast hC 1 rfl ((vp_in_eq (by omega)).mpr (by omega)) (by decide +kernel) ?_
  show kW C 87 14921 180 la [] ((a, .inr (12, [.ref (f1 0), .ref (f2 0), .ref (f3 0), .ref q4, .ref (f5 0), .ref (f6 0), .ref (f7 0), .ref (f8 0), .ref (f9 0), .ref (f10 0), .ref (f11 0), .ref (f12 0), .ref (f13 0), .ref q14, .ref q15, .ref q16])) :: ([(q16, .inl (kcy C 0, (4, .inl (upd (upd (fun _ => 0) (nI 0).toNatClampNeg (-1)) (nI 1).toNatClampNeg (-1)))))] ++ ((q15, .inl (kcy C 0, kza 0 4)) :: ((q14, .inl (kcy C 3, kza 3 160)) :: (mkF_11 (kcy C) f13 ++ (mkF_7 (kcy C) f12 ++ (mkF_2 (kcy C) f11 ++ (mkF_5 (kcy C) f10 ++ (mkF_6 (kcy C) f9 ++ (mkF_4 (kcy C) f8 ++ (mkF_8 (kcy C) f7 ++ (mkF_3 (kcy C) f6 ++ (mkF_9 (kcy C) f5 ++ ((q4, .inl (kcy C 2, kza 2 2)) :: (mkF_1 (kcy C) f3 ++ (mkF_1 (kcy C) f2 ++ (mkF_1 (kcy C) f1 ++ [])))))))))))))))))
  refine kx_inc hC (i := 1) (n := 1) (v := nI 2) (lv' := [(1, .int (nI 2)), (0, .ref a)]) hl 0 rfl (by decide) (by decide) rfl (by decide +kernel) (fun la hl => ?_)
  refine kx_goto hC (off := -15) (tgt := 168) (by decide +kernel) (by decide) ?_
  refine kx_ild hC (k := 1) hl 0 rfl rfl (by decide +kernel) ?_
  refine kx_int hC (v := nI 4) (by decide +kernel) (Or.inl ⟨4, rfl, rfl, by decide⟩) ?_
  refine kx_gen hC (off := 16) (tgt := 186) (by decide) (by decide +kernel) (by decide) ?_
  refine kx_al hC hl 1 (k := 0) rfl rfl (by decide +kernel) ?_
  refine kx_get hC (ci := 12) (b := 15) (q0 := 0) (v := .ref q16) (px_gw (p := 2093) rfl rfl) (by decide) (by decide) rfl rfl (by decide +kernel) ?_
  refine kx_ild hC (k := 1) hl 0 rfl rfl (by decide +kernel) ?_
  refine kx_int hC (v := -1) (by decide +kernel) (Or.inl ⟨-1, rfl, rfl, by decide⟩) ?_
  refine kx_iast hC 1 rfl ((vp_in_eq (by omega)).mpr (by omega)) (by decide +kernel) ?_
  show kW C 87 14921 180 la [] ((a, .inr (12, [.ref (f1 0), .ref (f2 0), .ref (f3 0), .ref q4, .ref (f5 0), .ref (f6 0), .ref (f7 0), .ref (f8 0), .ref (f9 0), .ref (f10 0), .ref (f11 0), .ref (f12 0), .ref (f13 0), .ref q14, .ref q15, .ref q16])) :: ([(q16, .inl (kcy C 0, (4, .inl (upd (upd (upd (fun _ => 0) (nI 0).toNatClampNeg (-1)) (nI 1).toNatClampNeg (-1)) (nI 2).toNatClampNeg (-1)))))] ++ ((q15, .inl (kcy C 0, kza 0 4)) :: ((q14, .inl (kcy C 3, kza 3 160)) :: (mkF_11 (kcy C) f13 ++ (mkF_7 (kcy C) f12 ++ (mkF_2 (kcy C) f11 ++ (mkF_5 (kcy C) f10 ++ (mkF_6 (kcy C) f9 ++ (mkF_4 (kcy C) f8 ++ (mkF_8 (kcy C) f7 ++ (mkF_3 (kcy C) f6 ++ (mkF_9 (kcy C) f5 ++ ((q4, .inl (kcy C 2, kza 2 2)) :: (mkF_1 (kcy C) f3 ++ (mkF_1 (kcy C) f2 ++ (mkF_1 (kcy C) f1 ++ [])))))))))))))))))
  refine kx_inc hC (i := 1) (n := 1) (v := nI 3) (lv' := [(1, .int (nI 3)), (0, .ref a)]) hl 0 rfl (by decide) (by decide) rfl (by decide +kernel) (fun la hl => ?_)
  refine kx_goto hC (off := -15) (tgt := 168) (by decide +kernel) (by decide) ?_
  refine kx_ild hC (k := 1) hl 0 rfl rfl (by decide +kernel) ?_
  refine kx_int hC (v := nI 4) (by decide +kernel) (Or.inl ⟨4, rfl, rfl, by decide⟩) ?_
  refine kx_gen hC (off := 16) (tgt := 186) (by decide) (by decide +kernel) (by decide) ?_
  refine kx_al hC hl 1 (k := 0) rfl rfl (by decide +kernel) ?_
  refine kx_get hC (ci := 12) (b := 15) (q0 := 0) (v := .ref q16) (px_gw (p := 2093) rfl rfl) (by decide) (by decide) rfl rfl (by decide +kernel) ?_
  refine kx_ild hC (k := 1) hl 0 rfl rfl (by decide +kernel) ?_
  refine kx_int hC (v := -1) (by decide +kernel) (Or.inl ⟨-1, rfl, rfl, by decide⟩) ?_
  refine kx_iast hC 1 rfl ((vp_in_eq (by omega)).mpr (by omega)) (by decide +kernel) ?_
  show kW C 87 14921 180 la [] ((a, .inr (12, [.ref (f1 0), .ref (f2 0), .ref (f3 0), .ref q4, .ref (f5 0), .ref (f6 0), .ref (f7 0), .ref (f8 0), .ref (f9 0), .ref (f10 0), .ref (f11 0), .ref (f12 0), .ref (f13 0), .ref q14, .ref q15, .ref q16])) :: ([(q16, .inl (kcy C 0, (4, .inl (upd (upd (upd (upd (fun _ => 0) (nI 0).toNatClampNeg (-1)) (nI 1).toNatClampNeg (-1)) (nI 2).toNatClampNeg (-1)) (nI 3).toNatClampNeg (-1)))))] ++ ((q15, .inl (kcy C 0, kza 0 4)) :: ((q14, .inl (kcy C 3, kza 3 160)) :: (mkF_11 (kcy C) f13 ++ (mkF_7 (kcy C) f12 ++ (mkF_2 (kcy C) f11 ++ (mkF_5 (kcy C) f10 ++ (mkF_6 (kcy C) f9 ++ (mkF_4 (kcy C) f8 ++ (mkF_8 (kcy C) f7 ++ (mkF_3 (kcy C) f6 ++ (mkF_9 (kcy C) f5 ++ ((q4, .inl (kcy C 2, kza 2 2)) :: (mkF_1 (kcy C) f3 ++ (mkF_1 (kcy C) f2 ++ (mkF_1 (kcy C) f1 ++ [])))))))))))))))))
  refine kx_inc hC (i := 1) (n := 1) (v := nI 4) (lv' := [(1, .int (nI 4)), (0, .ref a)]) hl 0 rfl (by decide) (by decide) rfl (by decide +kernel) (fun la hl => ?_)
  refine kx_goto hC (off := -15) (tgt := 168) (by decide +kernel) (by decide) ?_
  refine kx_ild hC (k := 1) hl 0 rfl rfl (by decide +kernel) ?_
  refine kx_int hC (v := nI 4) (by decide +kernel) (Or.inl ⟨4, rfl, rfl, by decide⟩) ?_
  refine kx_gey hC (off := 16) (tgt := 186) (by decide) (by decide +kernel) (by decide) ?_
  obtain ⟨g, hg⟩ : ∃ g : Nat → Nat, g = fun k => if k = 0 then a else if k < 3 then q4 else if k < 4 then q14 else if k < 5 then q15 else if k < 10 then q16 else if k < 20 then f1 (k - 10) else if k < 30 then f2 (k - 20) else if k < 40 then f3 (k - 30) else if k < 50 then f5 (k - 30) else if k < 60 then f5 (k - 50) else if k < 70 then f6 (k - 60) else if k < 80 then f7 (k - 70) else if k < 90 then f8 (k - 80) else if k < 100 then f9 (k - 90) else if k < 110 then f10 (k - 100) else if k < 130 then f11 (k - 110) else if k < 140 then f12 (k - 130) else f13 (k - 140) := ⟨_, rfl⟩
  refine kx_eq ?_ (hret 186 la g (by decide +kernel) (by rw [hg]; rfl))
  unfold mkF_12
  have hf13 : mkF_11 (kcy C) (fun k => g (140 + k)) = mkF_11 (kcy C) f13 := by
    refine mkF_11_cg (fun k hk => ?_)
    rw [hg]
    rcases (by omega : k = 0 ∨ k = 1) with rfl | rfl <;> rfl
  have hf12 : mkF_7 (kcy C) (fun k => g (130 + k)) = mkF_7 (kcy C) f12 := by
    refine mkF_7_cg (fun k hk => ?_)
    rw [hg]
    rcases (by omega : k = 0 ∨ k = 1 ∨ k = 2 ∨ k = 3 ∨ k = 4) with rfl | rfl | rfl | rfl | rfl <;> rfl
  have hf11 : mkF_2 (kcy C) (fun k => g (110 + k)) = mkF_2 (kcy C) f11 := by
    refine mkF_2_cg (fun k hk => ?_)
    rw [hg]
    rcases (by omega : k = 0 ∨ k = 1 ∨ k = 2 ∨ k = 3 ∨ k = 4 ∨ k = 5 ∨ k = 6 ∨ k = 7 ∨ k = 8 ∨ k = 9 ∨ k = 10 ∨ k = 11 ∨ k = 12 ∨ k = 13 ∨ k = 14 ∨ k = 15 ∨ k = 16) with rfl | rfl | rfl | rfl | rfl | rfl | rfl | rfl | rfl | rfl | rfl | rfl | rfl | rfl | rfl | rfl | rfl <;> rfl
  have hf10 : mkF_5 (kcy C) (fun k => g (100 + k)) = mkF_5 (kcy C) f10 := by
    refine mkF_5_cg (fun k hk => ?_)
    rw [hg]
    rcases (by omega : k = 0 ∨ k = 1 ∨ k = 2) with rfl | rfl | rfl <;> rfl
  have hf9 : mkF_6 (kcy C) (fun k => g (90 + k)) = mkF_6 (kcy C) f9 := by
    refine mkF_6_cg (fun k hk => ?_)
    rw [hg]
    rcases (by omega : k = 0 ∨ k = 1 ∨ k = 2 ∨ k = 3 ∨ k = 4 ∨ k = 5) with rfl | rfl | rfl | rfl | rfl | rfl <;> rfl
  have hf8 : mkF_4 (kcy C) (fun k => g (80 + k)) = mkF_4 (kcy C) f8 := by
    refine mkF_4_cg (fun k hk => ?_)
    rw [hg]
    rcases (by omega : k = 0 ∨ k = 1 ∨ k = 2 ∨ k = 3 ∨ k = 4 ∨ k = 5 ∨ k = 6) with rfl | rfl | rfl | rfl | rfl | rfl | rfl <;> rfl
  have hf7 : mkF_8 (kcy C) (fun k => g (70 + k)) = mkF_8 (kcy C) f7 := by
    refine mkF_8_cg (fun k hk => ?_)
    rw [hg]
    rcases (by omega : k = 0 ∨ k = 1 ∨ k = 2 ∨ k = 3 ∨ k = 4) with rfl | rfl | rfl | rfl | rfl <;> rfl
  have hf6 : mkF_3 (kcy C) (fun k => g (60 + k)) = mkF_3 (kcy C) f6 := by
    refine mkF_3_cg (fun k hk => ?_)
    rw [hg]
    rcases (by omega : k = 0 ∨ k = 1) with rfl | rfl <;> rfl
  have hf5 : mkF_9 (kcy C) (fun k => g (if k < 10 then 50 + k else 30 + k)) = mkF_9 (kcy C) f5 := by
    rw [hg]; rfl
  have hf3 : mkF_1 (kcy C) (fun k => g (30 + k)) = mkF_1 (kcy C) f3 := by
    refine mkF_1_cg (fun k hk => ?_)
    rw [hg]
    rcases (by omega : k = 0 ∨ k = 1 ∨ k = 2 ∨ k = 3 ∨ k = 4 ∨ k = 5 ∨ k = 6 ∨ k = 7) with rfl | rfl | rfl | rfl | rfl | rfl | rfl | rfl <;> rfl
  have hf2 : mkF_1 (kcy C) (fun k => g (20 + k)) = mkF_1 (kcy C) f2 := by
    refine mkF_1_cg (fun k hk => ?_)
    rw [hg]
    rcases (by omega : k = 0 ∨ k = 1 ∨ k = 2 ∨ k = 3 ∨ k = 4 ∨ k = 5 ∨ k = 6 ∨ k = 7) with rfl | rfl | rfl | rfl | rfl | rfl | rfl | rfl <;> rfl
  have hf1 : mkF_1 (kcy C) (fun k => g (10 + k)) = mkF_1 (kcy C) f1 := by
    refine mkF_1_cg (fun k hk => ?_)
    rw [hg]
    rcases (by omega : k = 0 ∨ k = 1 ∨ k = 2 ∨ k = 3 ∨ k = 4 ∨ k = 5 ∨ k = 6 ∨ k = 7) with rfl | rfl | rfl | rfl | rfl | rfl | rfl | rfl <;> rfl
  rw [hf13, hf12, hf11, hf10, hf9, hf8, hf7, hf6, hf5, hf3, hf2, hf1]
  rw [hg]
  rfl
