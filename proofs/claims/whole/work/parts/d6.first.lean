/-! the first memory: printed by wip/whole/genstart.py -/
def z0l : List (Nat × Nat × Nat) := [(0, 1, 1), (0, 2, 2), (0, 3, 3), (0, 4, 4), (0, 15, 15), (0, 16, 16), (0, 17, 17), (0, 18, 18), (0, 19, 19), (0, 20, 20), (0, 23, 23), (0, 24, 24), (0, 25, 25), (0, 26, 26), (0, 27, 27), (0, 28, 28), (0, 31, 31), (0, 35, 35), (0, 36, 36), (0, 37, 37), (100, 0, 110), (100, 1, 120), (100, 2, 130), (100, 3, 102), (100, 4, 150), (100, 5, 160), (100, 6, 170), (100, 7, 180), (100, 8, 190), (100, 9, 200), (100, 10, 210), (100, 11, 230), (100, 12, 240), (100, 13, 103), (100, 14, 104), (100, 15, 105), (110, 0, 111), (110, 1, 113), (110, 5, 117), (111, 1, 112), (113, 1, 114), (113, 2, 115), (113, 3, 116), (120, 0, 121), (120, 1, 123), (120, 5, 127), (121, 1, 122), (123, 1, 124), (123, 2, 125), (123, 3, 126), (130, 0, 131), (130, 1, 133), (130, 5, 137), (131, 1, 132), (133, 1, 134), (133, 2, 135), (133, 3, 136), (140, 0, 141), (140, 1, 143), (140, 5, 147), (141, 1, 142), (143, 1, 144), (143, 2, 145), (143, 3, 146), (150, 3, 140), (150, 4, 151), (150, 5, 152), (150, 6, 153), (160, 0, 161), (170, 0, 171), (170, 1, 172), (170, 2, 173), (173, 1, 174), (180, 0, 181), (180, 1, 183), (180, 2, 184), (180, 3, 185), (181, 0, 182), (185, 1, 186), (190, 0, 191), (190, 1, 192), (190, 2, 194), (192, 1, 193), (194, 1, 195), (200, 0, 201), (201, 1, 202), (210, 0, 211), (210, 1, 216), (210, 2, 218), (210, 3, 219), (210, 4, 220), (210, 5, 221), (210, 6, 225), (210, 7, 216), (211, 0, 212), (211, 1, 213), (211, 2, 214), (214, 1, 215), (216, 1, 217), (221, 1, 222), (221, 2, 223), (221, 3, 224), (225, 1, 226), (230, 0, 231), (230, 1, 233), (231, 1, 232), (233, 1, 234), (240, 1, 241)]
def z0u : Nat → Int32 := upd (upd (upd (upd (fun _ => 0) (nI 0).toNatClampNeg (-1)) (nI 1).toNatClampNeg (-1)) (nI 2).toNatClampNeg (-1)) (nI 3).toNatClampNeg (-1)
def z0i (l : Nat) : Nat → Int32 := if l = 105 then z0u else if l = 35 then z0u else if l = 150 then (fun j => if j = 2 then -1 else if j = 9 then nI 3005 else 0) else if l = 0 then (fun j => if j = 14 then -1 else 0) else fun _ => 0
def z0L (l : Nat) : Nat → Int64 := if l = 200 then (fun j => if j = 1 then -1 else 0) else fun _ => 0
def z0r (l : Nat) : Nat → Option Nat := if l = 0 then (fun j => if (1 ≤ j ∧ j ≤ 4) ∨ (15 ≤ j ∧ j ≤ 20) ∨ (23 ≤ j ∧ j ≤ 28) ∨ j = 31 ∨ (35 ≤ j ∧ j ≤ 37) then some j else none) else fun j => (z0l.find? (fun q => q.1 == l && q.2.1 == j)).map (fun q => q.2.2)
def z0 : px_M := (z0i, z0L, z0r)
def adz (f g tx : Nat → Nat) (L : Nat) : Nat := if L < 100 then g L else if L < 1000 then f (L - 100) else tx L
def clz (cy : Nat → ClassId) (ad : Nat → Nat) (q : Nat × (Nat ⊕ (Nat × Nat))) : Nat × va_E := (ad q.1, px_e cy ad z0 q.1 q.2)
def fsg (ad : Nat → Nat) (σ : px_M) (k : Nat) : Nat → List Nat → List Value
  | _, [] => []
  | j, kd :: ks => px_fv ad σ k j kd :: fsg ad σ k (j + 1) ks
theorem fs_go (ad : Nat → Nat) (σ : px_M) (k : Nat) : ∀ (ks : List Nat) (j : Nat), ks.mapIdx (fun i kd => px_fv ad σ k (j + i) kd) = fsg ad σ k j ks := by
  intro ks
  induction ks with
  | nil => intro j; rfl
  | cons a ks ih =>
    intro j
    rw [List.mapIdx_cons]
    show px_fv ad σ k (j + 0) a :: _ = px_fv ad σ k j a :: fsg ad σ k (j + 1) ks
    rw [Nat.add_zero, ← ih (j + 1)]
    congr 1
    congr 1
    funext i kd
    rw [show j + (i + 1) = j + 1 + i by omega]
theorem fs_eq (ad : Nat → Nat) (σ : px_M) (k : Nat) (ks : List Nat) : px_fs ad σ k ks = fsg ad σ k 0 ks := by
  rw [← fs_go]
  unfold px_fs
  congr 1
  funext i kd
  rw [Nat.zero_add]
def wL130 : px_T := [(130, .inl 1), (131, .inl 11), (132, .inr (0, 11)), (133, .inl 10), (134, .inr (0, 7)), (135, .inr (0, 6)), (136, .inr (0, 900)), (137, .inr (0, 144))]
set_option maxRecDepth 100000 in
set_option maxHeartbeats 4000000 in
theorem bz_130 (cy : Nat → ClassId) (f g tx : Nat → Nat) : mkF_1 cy (fun k => f (30 + k)) = wL130.map (clz cy (adz f g tx)) := by rfl
def wL120 : px_T := [(120, .inl 1), (121, .inl 11), (122, .inr (0, 11)), (123, .inl 10), (124, .inr (0, 7)), (125, .inr (0, 6)), (126, .inr (0, 900)), (127, .inr (0, 144))]
set_option maxRecDepth 100000 in
set_option maxHeartbeats 4000000 in
theorem bz_120 (cy : Nat → ClassId) (f g tx : Nat → Nat) : mkF_1 cy (fun k => f (20 + k)) = wL120.map (clz cy (adz f g tx)) := by rfl
def wL240 : px_T := [(240, .inl 11), (241, .inr (0, 11))]
set_option maxRecDepth 100000 in
set_option maxHeartbeats 4000000 in
theorem bz_240 (cy : Nat → ClassId) (f g tx : Nat → Nat) : mkF_11 cy (fun k => f (140 + k)) = wL240.map (clz cy (adz f g tx)) := by rfl
def wL230 : px_T := [(230, .inl 7), (231, .inl 11), (232, .inr (0, 11)), (233, .inl 11), (234, .inr (0, 11))]
set_option maxRecDepth 100000 in
set_option maxHeartbeats 4000000 in
theorem bz_230 (cy : Nat → ClassId) (f g tx : Nat → Nat) : mkF_7 cy (fun k => f (130 + k)) = wL230.map (clz cy (adz f g tx)) := by rfl
def wL210 : px_T := [(210, .inl 2), (211, .inl 8), (212, .inr (0, 11)), (213, .inr (0, 132)), (214, .inl 11), (215, .inr (0, 11)), (216, .inl 11), (217, .inr (0, 11)), (218, .inr (0, 64)), (219, .inr (0, 6)), (220, .inr (0, 99)), (221, .inl 10), (222, .inr (0, 7)), (223, .inr (0, 6)), (224, .inr (0, 900)), (225, .inl 11), (226, .inr (0, 11))]
set_option maxRecDepth 100000 in
set_option maxHeartbeats 4000000 in
theorem bz_210 (cy : Nat → ClassId) (f g tx : Nat → Nat) : mkF_2 cy (fun k => f (110 + k)) = wL210.map (clz cy (adz f g tx)) := by rfl
def wL200 : px_T := [(200, .inl 5), (201, .inl 11), (202, .inr (0, 11))]
set_option maxRecDepth 100000 in
set_option maxHeartbeats 4000000 in
theorem bz_200 (cy : Nat → ClassId) (f g tx : Nat → Nat) : mkF_5 cy (fun k => f (100 + k)) = wL200.map (clz cy (adz f g tx)) := by rfl
def wL190 : px_T := [(190, .inl 6), (191, .inr (0, 11)), (192, .inl 11), (193, .inr (0, 11)), (194, .inl 11), (195, .inr (0, 11))]
set_option maxRecDepth 100000 in
set_option maxHeartbeats 4000000 in
theorem bz_190 (cy : Nat → ClassId) (f g tx : Nat → Nat) : mkF_6 cy (fun k => f (90 + k)) = wL190.map (clz cy (adz f g tx)) := by rfl
def wL180 : px_T := [(180, .inl 4), (181, .inl 3), (182, .inr (0, 2048)), (183, .inr (0, 2048)), (184, .inr (0, 11)), (185, .inl 11), (186, .inr (0, 11))]
set_option maxRecDepth 100000 in
set_option maxHeartbeats 4000000 in
theorem bz_180 (cy : Nat → ClassId) (f g tx : Nat → Nat) : mkF_4 cy (fun k => f (80 + k)) = wL180.map (clz cy (adz f g tx)) := by rfl
def wL170 : px_T := [(170, .inl 8), (171, .inr (0, 11)), (172, .inr (0, 132)), (173, .inl 11), (174, .inr (0, 11))]
set_option maxRecDepth 100000 in
set_option maxHeartbeats 4000000 in
theorem bz_170 (cy : Nat → ClassId) (f g tx : Nat → Nat) : mkF_8 cy (fun k => f (70 + k)) = wL170.map (clz cy (adz f g tx)) := by rfl
def wL160 : px_T := [(160, .inl 3), (161, .inr (0, 2048))]
set_option maxRecDepth 100000 in
set_option maxHeartbeats 4000000 in
theorem bz_160 (cy : Nat → ClassId) (f g tx : Nat → Nat) : mkF_3 cy (fun k => f (60 + k)) = wL160.map (clz cy (adz f g tx)) := by rfl
def wL150 : px_T := [(150, .inl 9), (140, .inl 1), (141, .inl 11), (142, .inr (0, 11)), (143, .inl 10), (144, .inr (0, 7)), (145, .inr (0, 6)), (146, .inr (0, 900)), (147, .inr (0, 144)), (151, .inr (1, 900)), (152, .inr (0, 901)), (153, .inr (0, 901))]
set_option maxRecDepth 100000 in
set_option maxHeartbeats 4000000 in
theorem bz_150 (cy : Nat → ClassId) (f g tx : Nat → Nat) : mkF_9 cy (fun k => f (if k < 10 then 50 + k else 30 + k)) = wL150.map (clz cy (adz f g tx)) := by rfl
def wL110 : px_T := [(110, .inl 1), (111, .inl 11), (112, .inr (0, 11)), (113, .inl 10), (114, .inr (0, 7)), (115, .inr (0, 6)), (116, .inr (0, 900)), (117, .inr (0, 144))]
set_option maxRecDepth 100000 in
set_option maxHeartbeats 4000000 in
theorem bz_110 (cy : Nat → ClassId) (f g tx : Nat → Nat) : mkF_1 cy (fun k => f (10 + k)) = wL110.map (clz cy (adz f g tx)) := by rfl
set_option maxRecDepth 100000 in
set_option maxHeartbeats 8000000 in
theorem bz_100 (cy : Nat → ClassId) (f g tx : Nat → Nat) : ((f 0, .inr (12, [.ref (f 10), .ref (f 20), .ref (f 30), .ref (f 2), .ref (f 50), .ref (f 60), .ref (f 70), .ref (f 80), .ref (f 90), .ref (f 100), .ref (f 110), .ref (f 130), .ref (f 140), .ref (f 3), .ref (f 4), .ref (f 5)])) : Nat × va_E) = clz cy (adz f g tx) (100, .inl 12) := by
  unfold clz px_e
  dsimp only
  rw [fs_eq]
  rfl
set_option maxRecDepth 100000 in
set_option maxHeartbeats 8000000 in
theorem bz_0a (cy : Nat → ClassId) (f g tx : Nat → Nat) : ((g 0, .inr (0, [.int 0, .ref (g 1), .ref (g 2), .ref (g 3), .ref (g 4), .int 0, .int 0, .int 0, .int 0, .int 0, .int 0, .int 0, .int 0, .int 0, .int (-1), .ref (g 15), .ref (g 16), .ref (g 17), .ref (g 18), .ref (g 19), .ref (g 20), .int 0, .int 0, .ref (g 23), .ref (g 24), .ref (g 25), .ref (g 26), .ref (g 27), .ref (g 28), .int 0, .int 0, .ref (g 31), .int 0, .int 0, .int 0, .ref (g 35), .ref (g 36), .ref (g 37)])) : Nat × va_E) = clz cy (adz f g tx) (0, .inl 0) := by
  unfold clz px_e
  dsimp only
  rw [fs_eq]
  rfl
theorem bz_105 (cy : Nat → ClassId) (f g tx : Nat → Nat) : (((f 5), .inl (cy 0, (4, .inl (upd (upd (upd (upd (fun _ => 0) (nI 0).toNatClampNeg (-1)) (nI 1).toNatClampNeg (-1)) (nI 2).toNatClampNeg (-1)) (nI 3).toNatClampNeg (-1))))) : Nat × va_E) = clz cy (adz f g tx) (105, .inr (0, 4)) := by
  have e : z0i 105 = upd (upd (upd (upd (fun _ => 0) (nI 0).toNatClampNeg (-1)) (nI 1).toNatClampNeg (-1)) (nI 2).toNatClampNeg (-1)) (nI 3).toNatClampNeg (-1) := rfl
  rw [← e]
  rfl
theorem bz_0_35 (cy : Nat → ClassId) (f g tx : Nat → Nat) : (((g 35), .inl (cy 0, (4, .inl (upd (upd (upd (upd (fun _ => 0) (nI 0).toNatClampNeg (-1)) (nI 1).toNatClampNeg (-1)) (nI 2).toNatClampNeg (-1)) (nI 3).toNatClampNeg (-1))))) : Nat × va_E) = clz cy (adz f g tx) (35, .inr (0, 4)) := by
  have e : z0i 35 = upd (upd (upd (upd (fun _ => 0) (nI 0).toNatClampNeg (-1)) (nI 1).toNatClampNeg (-1)) (nI 2).toNatClampNeg (-1)) (nI 3).toNatClampNeg (-1) := rfl
  rw [← e]
  rfl
theorem bz_104 (cy : Nat → ClassId) (f g tx : Nat → Nat) : (((f 4), .inl (cy 0, kza 0 4)) : Nat × va_E) = clz cy (adz f g tx) (104, .inr (0, 4)) := rfl
theorem bz_103 (cy : Nat → ClassId) (f g tx : Nat → Nat) : (((f 3), .inl (cy 3, kza 3 160)) : Nat × va_E) = clz cy (adz f g tx) (103, .inr (3, 160)) := rfl
theorem bz_102 (cy : Nat → ClassId) (f g tx : Nat → Nat) : (((f 2), .inl (cy 2, kza 2 2)) : Nat × va_E) = clz cy (adz f g tx) (102, .inr (2, 2)) := rfl
theorem bz_0_1 (cy : Nat → ClassId) (f g tx : Nat → Nat) : (((g 1), .inl (cy 0, kza 0 3216)) : Nat × va_E) = clz cy (adz f g tx) (1, .inr (0, 3216)) := rfl
theorem bz_0_2 (cy : Nat → ClassId) (f g tx : Nat → Nat) : (((g 2), .inl (cy 2, kza 2 2)) : Nat × va_E) = clz cy (adz f g tx) (2, .inr (2, 2)) := rfl
theorem bz_0_3 (cy : Nat → ClassId) (f g tx : Nat → Nat) : (((g 3), .inl (cy 0, kza 0 900)) : Nat × va_E) = clz cy (adz f g tx) (3, .inr (0, 900)) := rfl
theorem bz_0_4 (cy : Nat → ClassId) (f g tx : Nat → Nat) : (((g 4), .inl (cy 0, kza 0 1072)) : Nat × va_E) = clz cy (adz f g tx) (4, .inr (0, 1072)) := rfl
theorem bz_0_15 (cy : Nat → ClassId) (f g tx : Nat → Nat) : (((g 15), .inl (cy 0, kza 0 11)) : Nat × va_E) = clz cy (adz f g tx) (15, .inr (0, 11)) := rfl
theorem bz_0_16 (cy : Nat → ClassId) (f g tx : Nat → Nat) : (((g 16), .inl (cy 0, kza 0 11)) : Nat × va_E) = clz cy (adz f g tx) (16, .inr (0, 11)) := rfl
theorem bz_0_17 (cy : Nat → ClassId) (f g tx : Nat → Nat) : (((g 17), .inl (cy 0, kza 0 900)) : Nat × va_E) = clz cy (adz f g tx) (17, .inr (0, 900)) := rfl
theorem bz_0_18 (cy : Nat → ClassId) (f g tx : Nat → Nat) : (((g 18), .inl (cy 0, kza 0 12)) : Nat × va_E) = clz cy (adz f g tx) (18, .inr (0, 12)) := rfl
theorem bz_0_19 (cy : Nat → ClassId) (f g tx : Nat → Nat) : (((g 19), .inl (cy 0, kza 0 11)) : Nat × va_E) = clz cy (adz f g tx) (19, .inr (0, 11)) := rfl
theorem bz_0_20 (cy : Nat → ClassId) (f g tx : Nat → Nat) : (((g 20), .inl (cy 0, kza 0 12)) : Nat × va_E) = clz cy (adz f g tx) (20, .inr (0, 12)) := rfl
theorem bz_0_23 (cy : Nat → ClassId) (f g tx : Nat → Nat) : (((g 23), .inl (cy 3, kza 3 2048)) : Nat × va_E) = clz cy (adz f g tx) (23, .inr (3, 2048)) := rfl
theorem bz_0_24 (cy : Nat → ClassId) (f g tx : Nat → Nat) : (((g 24), .inl (cy 3, kza 3 2048)) : Nat × va_E) = clz cy (adz f g tx) (24, .inr (3, 2048)) := rfl
theorem bz_0_25 (cy : Nat → ClassId) (f g tx : Nat → Nat) : (((g 25), .inl (cy 2, kza 2 2048)) : Nat × va_E) = clz cy (adz f g tx) (25, .inr (2, 2048)) := rfl
theorem bz_0_26 (cy : Nat → ClassId) (f g tx : Nat → Nat) : (((g 26), .inl (cy 2, kza 2 2048)) : Nat × va_E) = clz cy (adz f g tx) (26, .inr (2, 2048)) := rfl
theorem bz_0_27 (cy : Nat → ClassId) (f g tx : Nat → Nat) : (((g 27), .inl (cy 0, kza 0 11)) : Nat × va_E) = clz cy (adz f g tx) (27, .inr (0, 11)) := rfl
theorem bz_0_28 (cy : Nat → ClassId) (f g tx : Nat → Nat) : (((g 28), .inl (cy 0, kza 0 11)) : Nat × va_E) = clz cy (adz f g tx) (28, .inr (0, 11)) := rfl
theorem bz_0_31 (cy : Nat → ClassId) (f g tx : Nat → Nat) : (((g 31), .inl (cy 0, kza 0 6)) : Nat × va_E) = clz cy (adz f g tx) (31, .inr (0, 6)) := rfl
theorem bz_0_36 (cy : Nat → ClassId) (f g tx : Nat → Nat) : (((g 36), .inl (cy 0, kza 0 4)) : Nat × va_E) = clz cy (adz f g tx) (36, .inr (0, 4)) := rfl
theorem bz_0_37 (cy : Nat → ClassId) (f g tx : Nat → Nat) : (((g 37), .inl (cy 3, kza 3 160)) : Nat × va_E) = clz cy (adz f g tx) (37, .inr (3, 160)) := rfl
def wl12 : px_T := (100, .inl 12) :: ([(105, .inr (0, 4))] ++ ((104, .inr (0, 4)) :: ((103, .inr (3, 160)) :: (wL240 ++ (wL230 ++ (wL210 ++ (wL200 ++ (wL190 ++ (wL180 ++ (wL170 ++ (wL160 ++ (wL150 ++ ((102, .inr (2, 2)) :: (wL130 ++ (wL120 ++ (wL110 ++ []))))))))))))))))
def wl0 : px_T := [(0, .inl 0), (1, .inr (0, 3216)), (2, .inr (2, 2)), (3, .inr (0, 900)), (4, .inr (0, 1072)), (15, .inr (0, 11)), (16, .inr (0, 11)), (17, .inr (0, 900)), (18, .inr (0, 12)), (19, .inr (0, 11)), (20, .inr (0, 12)), (23, .inr (3, 2048)), (24, .inr (3, 2048)), (25, .inr (2, 2048)), (26, .inr (2, 2048)), (27, .inr (0, 11)), (28, .inr (0, 11)), (31, .inr (0, 6)), (35, .inr (0, 4)), (36, .inr (0, 4)), (37, .inr (3, 160))]
theorem wlab_p : (wl12 ++ wl0).Perm (px_in tT) := by decide +kernel
set_option maxRecDepth 100000 in
set_option maxHeartbeats 4000000 in
theorem mk12_z (cy : Nat → ClassId) (f g tx : Nat → Nat) : mkF_12 cy f = wl12.map (clz cy (adz f g tx)) := by
  unfold mkF_12
  rw [bz_100 cy f g tx, bz_105 cy f g tx, bz_104 cy f g tx, bz_103 cy f g tx, bz_240 cy f g tx, bz_230 cy f g tx, bz_210 cy f g tx, bz_200 cy f g tx, bz_190 cy f g tx, bz_180 cy f g tx, bz_170 cy f g tx, bz_160 cy f g tx, bz_150 cy f g tx, bz_102 cy f g tx, bz_130 cy f g tx, bz_120 cy f g tx, bz_110 cy f g tx]
  simp only [wl12, List.map_append, List.map_cons, List.map_nil]
set_option maxRecDepth 100000 in
set_option maxHeartbeats 4000000 in
theorem mk0_z (cy : Nat → ClassId) (f g tx : Nat → Nat) : mkF_0 cy g = wl0.map (clz cy (adz f g tx)) := by
  unfold mkF_0
  rw [bz_0a cy f g tx, bz_0_1 cy f g tx, bz_0_2 cy f g tx, bz_0_3 cy f g tx, bz_0_4 cy f g tx, bz_0_15 cy f g tx, bz_0_16 cy f g tx, bz_0_17 cy f g tx, bz_0_18 cy f g tx, bz_0_19 cy f g tx, bz_0_20 cy f g tx, bz_0_23 cy f g tx, bz_0_24 cy f g tx, bz_0_25 cy f g tx, bz_0_26 cy f g tx, bz_0_27 cy f g tx, bz_0_28 cy f g tx, bz_0_31 cy f g tx, bz_0_35 cy f g tx, bz_0_36 cy f g tx, bz_0_37 cy f g tx]
  simp only [wl0, List.map_cons, List.map_nil]
