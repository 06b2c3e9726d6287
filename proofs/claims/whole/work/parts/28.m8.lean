/-! printed by program: methods as functions, and that the bytecode does what they tell -/
theorem dd12_height_b91 : AllD (ib i12_height) [(91, .istore_n 1, 1), (92, .iinc 3 1, 3), (95, .goto (-55), 3)] := allD_of (by decide +kernel)
def f12_height_b91 (K40 : MM → Nat → Int32 → Int32 → Int32 → Option (Int32 × MM)) (M : MM) (a0 : Nat) (a2 : Int32) (a3 : Int32) (s0 : Int32) : Option (Int32 × MM) :=
  K40 M a0 s0 a2 (a3 + (1 : Int32))
set_option maxRecDepth 4000 in
theorem T12_height_b91 {K40 : MM → Nat → Int32 → Int32 → Int32 → Option (Int32 × MM)} (hK40 : ∀ (M : MM) (a0 : Nat) (a1 : Int32) (a2 : Int32) (a3 : Int32), X Li i12_height 40 [(0, vr a0), (1, vi a1), (2, vi a2), (3, vi a3)] [] M (K40 M a0 a1 a2 a3)) : ∀ (M : MM) (a0 : Nat) (a2 : Int32) (a3 : Int32) (s0 : Int32), X Li i12_height 91 [(0, vr a0), (2, vi a2), (3, vi a3)] [vi s0] M (f12_height_b91 K40 M a0 a2 a3 s0) := by
  obtain ⟨d91, d92, d95, -⟩ := dd12_height_b91
  intro M a0 a2 a3 s0
  unfold f12_height_b91
  refine X_istoren (lv' := [(1, vi s0), (0, vr a0), (2, vi a2), (3, vi a3)]) d91 (by decide) rfl ?_
  refine X_inc (lv' := [(3, vi (a3 + (1 : Int32))), (1, vi s0), (0, vr a0), (2, vi a2)]) 3 d92 k_i_1 rfl (by decide) rfl ?_
  refine X_goto (t := 40) d95 rfl ?_
  refine X_sub [2, 1, 3, 0] rfl ?_
  exact hK40 M a0 s0 a2 (a3 + (1 : Int32))

theorem dd12_height_b40 : AllD (ib i12_height) [(40, .iload_n 3, 1), (41, .aload_n 0, 1), (42, .invokevirtual 120, 3), (45, .if_icmp .ge 53, 3), (48, .aload_n 0, 1), (49, .getfield 76, 3), (52, .iconst 5, 1), (53, .iload_n 2, 1), (54, .imul, 1), (55, .iload_n 3, 1), (56, .iadd, 1), (57, .baload, 1), (58, .ifCond .eq 32, 3), (61, .iload_n 1, 1), (62, .aload_n 0, 1), (63, .getfield 69, 3), (66, .aload_n 0, 1), (67, .iload_n 3, 1), (68, .aload_n 0, 1), (69, .getfield 29, 3), (72, .iload_n 2, 1), (73, .iconst 1, 1), (74, .isub, 1), (75, .iaload, 1), (76, .invokevirtual 368, 3), (79, .iaload, 1), (80, .iload_n 2, 1), (81, .iadd, 1), (82, .iconst 1, 1), (83, .isub, 1), (84, .invokestatic 377, 3), (87, .goto 4, 3), (90, .iload_n 1, 1), (98, .iinc 2 1, 3), (101, .goto (-71), 3)] := allD_of (by decide +kernel)
def f12_height_b40_body (K30 : MM → Nat → Int32 → Int32 → Option (Int32 × MM)) (rc : MM → Nat → Int32 → Int32 → Int32 → Option (Int32 × MM)) (M : MM) (a0 : Nat) (a1 : Int32) (a2 : Int32) (a3 : Int32) : Option (Int32 × MM) :=
  aO M a0 12 <|
  cI (f12_states M a0) fun r42 M42 =>
  if r42 ≤ a3 then
    K30 M42 a0 a1 (a2 + (1 : Int32))
  else
    aO M42 a0 12 <|
    aA M42 (mR M42 a0 39) 2 (((5 : Int32) * a2) + a3) <|
    if (mI M42 (mR M42 a0 39) (((5 : Int32) * a2) + a3).toNatClampNeg) = 0 then
      (f12_height_b91 rc) M42 a0 a2 a3 a1
    else
      aO M42 a0 12 <|
      aO M42 a0 12 <|
      aA M42 (mR M42 a0 17) 0 (a2 - (1 : Int32)) <|
      aO M42 a0 12 <|
      cI (f12_head M42 a0 a3 (mI M42 (mR M42 a0 17) (a2 - (1 : Int32)).toNatClampNeg)) fun r76 M76 =>
      aA M76 (mR M42 a0 37) 0 r76 <|
      cI (f12_greater M76 a1 (((mI M76 (mR M42 a0 37) r76.toNatClampNeg) + a2) - (1 : Int32))) fun r84 M84 =>
      (f12_height_b91 rc) M84 a0 a2 a3 r84
def f12_height_b40 (K30 : MM → Nat → Int32 → Int32 → Option (Int32 × MM)) : MM → Nat → Int32 → Int32 → Int32 → Option (Int32 × MM) := LP5 (f12_height_b40_body K30) FU
set_option maxRecDepth 4000 in
theorem T12_height_b40 {K30 : MM → Nat → Int32 → Int32 → Option (Int32 × MM)} (hK30 : ∀ (M : MM) (a0 : Nat) (a1 : Int32) (a2 : Int32), X Li i12_height 30 [(0, vr a0), (1, vi a1), (2, vi a2)] [] M (K30 M a0 a1 a2)) : ∀ (M : MM) (a0 : Nat) (a1 : Int32) (a2 : Int32) (a3 : Int32), X Li i12_height 40 [(0, vr a0), (1, vi a1), (2, vi a2), (3, vi a3)] [] M (f12_height_b40 K30 M a0 a1 a2 a3) := by
  obtain ⟨d40, d41, d42, d45, d48, d49, d52, d53, d54, d55, d56, d57, d58, d61, d62, d63, d66, d67, d68, d69, d72, d73, d74, d75, d76, d79, d80, d81, d82, d83, d84, d87, d90, d98, d101, -⟩ := dd12_height_b40
  refine LP5_i (P := fun M a0 a1 a2 a3 o => X Li i12_height 40 [(0, vr a0), (1, vi a1), (2, vi a2), (3, vi a3)] [] M o) (fun _ _ _ _ _ => X_none) (fun rc ih M a0 a1 a2 a3 => ?_) FU
  unfold f12_height_b40_body
  refine X_iloadn 3 d40 rfl ?_
  refine X_aloadn 0 d41 rfl ?_
  refine X_cVi (as := []) d42 cv_x12_120 ⟨by decide, by decide⟩ rfl (Nat.le_of_ble_eq_true rfl) (T12_states M a0) (fun r42 M42 _ => ?_)
  refine X_icmp_ge (t := 98) d45 rfl (fun h45 => ?_) (fun h45 => ?_)
  · refine X_inc (lv' := [(2, vi (a2 + (1 : Int32))), (0, vr a0), (1, vi a1), (3, vi a3)]) 2 d98 k_i_1 rfl (by decide) rfl ?_
    refine X_goto (t := 30) d101 rfl ?_
    refine X_sub [1, 2, 0] rfl ?_
    exact hK30 M42 a0 a1 (a2 + (1 : Int32))
  · refine X_aloadn 0 d48 rfl ?_
    refine X_getR d49 fg_x12_76 ?_
    refine X_iconst k_i_5 d52 ?_
    refine X_iloadn 2 d53 rfl ?_
    refine X_imul d54 ?_
    refine X_iloadn 3 d55 rfl ?_
    refine X_iadd d56 ?_
    refine X_baload d57 ?_
    refine X_if_eq (t := 90) d58 rfl (fun h58 => ?_) (fun h58 => ?_)
    · refine X_iloadn 1 d90 rfl ?_
      refine X_sub [0, 2, 3] rfl ?_
      exact (T12_height_b91 ih) M42 a0 a2 a3 a1
    · refine X_iloadn 1 d61 rfl ?_
      refine X_aloadn 0 d62 rfl ?_
      refine X_getR d63 fg_x12_69 ?_
      refine X_aloadn 0 d66 rfl ?_
      refine X_iloadn 3 d67 rfl ?_
      refine X_aloadn 0 d68 rfl ?_
      refine X_getR d69 fg_x12_29 ?_
      refine X_iloadn 2 d72 rfl ?_
      refine X_iconst k_i_1 d73 ?_
      refine X_isub d74 ?_
      refine X_iaload d75 ?_
      refine X_cVi (as := [vi a3, vi (mI M42 (mR M42 a0 17) (a2 - (1 : Int32)).toNatClampNeg)]) d76 cv_x12_368 ⟨by decide, by decide⟩ rfl (Nat.le_of_ble_eq_true rfl) (T12_head M42 a0 a3 (mI M42 (mR M42 a0 17) (a2 - (1 : Int32)).toNatClampNeg)) (fun r76 M76 _ => ?_)
      refine X_iaload d79 ?_
      refine X_iloadn 2 d80 rfl ?_
      refine X_iadd d81 ?_
      refine X_iconst k_i_1 d82 ?_
      refine X_isub d83 ?_
      refine X_cSi (as := [vi a1, vi (((mI M76 (mR M42 a0 37) r76.toNatClampNeg) + a2) - (1 : Int32))]) d84 cs_x12_377 ⟨by decide, by decide⟩ rfl (Nat.le_of_ble_eq_true rfl) (T12_greater M76 a1 (((mI M76 (mR M42 a0 37) r76.toNatClampNeg) + a2) - (1 : Int32))) (fun r84 M84 _ => ?_)
      refine X_goto (t := 91) d87 rfl ?_
      refine X_sub [0, 2, 3] rfl ?_
      exact (T12_height_b91 ih) M84 a0 a2 a3 r84

theorem dd12_height_b30 : AllD (ib i12_height) [(30, .iload_n 2, 1), (31, .aload_n 0, 1), (32, .getfield 255, 3), (35, .if_icmp .gt 69, 3), (38, .iconst 0, 1), (39, .istore_n 3, 1), (104, .iload_n 1, 1), (105, .sipush 1000, 3), (108, .if_icmp .lt 7, 3), (111, .iconst (-1), 1), (112, .goto 4, 3), (115, .iload_n 1, 1), (116, .ireturn, 1)] := allD_of (by decide +kernel)
def f12_height_b30_body (rc : MM → Nat → Int32 → Int32 → Option (Int32 × MM)) (M : MM) (a0 : Nat) (a1 : Int32) (a2 : Int32) : Option (Int32 × MM) :=
  aO M a0 12 <|
  if (mI M a0 21) < a2 then
    if a1 < (1000 : Int32) then
      some (a1, M)
    else
      some ((-1 : Int32), M)
  else
    (f12_height_b40 rc) M a0 a1 a2 (0 : Int32)
def f12_height_b30 : MM → Nat → Int32 → Int32 → Option (Int32 × MM) := LP4 (f12_height_b30_body) FU
set_option maxRecDepth 4000 in
theorem T12_height_b30 : ∀ (M : MM) (a0 : Nat) (a1 : Int32) (a2 : Int32), X Li i12_height 30 [(0, vr a0), (1, vi a1), (2, vi a2)] [] M (f12_height_b30 M a0 a1 a2) := by
  obtain ⟨d30, d31, d32, d35, d38, d39, d104, d105, d108, d111, d112, d115, d116, -⟩ := dd12_height_b30
  refine LP4_i (P := fun M a0 a1 a2 o => X Li i12_height 30 [(0, vr a0), (1, vi a1), (2, vi a2)] [] M o) (fun _ _ _ _ => X_none) (fun rc ih M a0 a1 a2 => ?_) FU
  unfold f12_height_b30_body
  refine X_iloadn 2 d30 rfl ?_
  refine X_aloadn 0 d31 rfl ?_
  refine X_getI d32 fg_x12_255 ?_
  refine X_icmp_gt (t := 104) d35 rfl (fun h35 => ?_) (fun h35 => ?_)
  · refine X_iloadn 1 d104 rfl ?_
    refine X_sipush k_s_1000 d105 ?_
    refine X_icmp_lt (t := 115) d108 rfl (fun h108 => ?_) (fun h108 => ?_)
    · refine X_iloadn 1 d115 rfl ?_
      exact X_ireturn d116 rfl rfl
    · refine X_iconst k_i_m1 d111 ?_
      refine X_goto (t := 116) d112 rfl ?_
      exact X_ireturn d116 rfl rfl
  · refine X_iconst k_i_0 d38 ?_
    refine X_istoren (lv' := [(3, vi (0 : Int32)), (0, vr a0), (1, vi a1), (2, vi a2)]) d39 (by decide) rfl ?_
    refine X_sub [1, 2, 3, 0] rfl ?_
    exact (T12_height_b40 ih) M a0 a1 a2 (0 : Int32)

theorem dd12_height : AllD (ib i12_height) [(0, .aload_n 0, 1), (1, .iconst 0, 1), (2, .putfield 113, 3), (5, .aload_n 0, 1), (6, .getfield 236, 3), (9, .ifCond .ne 6, 3), (12, .bipush (-2), 2), (14, .ireturn, 1), (15, .aload_n 0, 1), (16, .invokevirtual 380, 3), (19, .aload_n 0, 1), (20, .invokevirtual 383, 3), (23, .aload_n 0, 1), (24, .getfield 255, 3), (27, .istore_n 1, 1), (28, .iconst 1, 1), (29, .istore_n 2, 1)] := allD_of (by decide +kernel)
def f12_height (M : MM) (a0 : Nat) : Option (Int32 × MM) :=
  aO M a0 12 <|
  bM (sI M a0 0 (0 : Int32)) fun M2 =>
  aO M2 a0 12 <|
  if (mI M2 a0 19) = 0 then
    some ((-2 : Int32), M2)
  else
    aO M2 a0 12 <|
    cV (f12_layRise M2 a0) fun M16 =>
    aO M16 a0 12 <|
    cV (f12_layComesUp M16 a0) fun M20 =>
    aO M20 a0 12 <|
    bW (mI M20 a0 21) fun v27 =>
    f12_height_b30 M20 a0 v27 (1 : Int32)
set_option maxRecDepth 4000 in
theorem T12_height (M : MM) (a0 : Nat) : ∀ q, f12_height M a0 = some q → Run i12_height [vr a0] M (Li q) := by
  obtain ⟨d0, d1, d2, d5, d6, d9, d12, d14, d15, d16, d19, d20, d23, d24, d27, d28, d29, -⟩ := dd12_height
  refine Run_of_X (by decide) (Nat.le_of_ble_eq_true rfl) ?_
  show X Li i12_height 0 [(0, vr a0)] [] M _
  unfold f12_height
  refine X_aloadn 0 d0 rfl ?_
  refine X_iconst k_i_0 d1 ?_
  refine X_putI d2 fp_x12_113 ?_
  refine X_bM fun M2 _ => ?_
  refine X_aloadn 0 d5 rfl ?_
  refine X_getI d6 fg_x12_236 ?_
  refine X_if_ne (t := 15) d9 rfl (fun h9 => ?_) (fun h9 => ?_)
  · refine X_bipush k_b_m2 d12 ?_
    exact X_ireturn d14 rfl rfl
  · refine X_aloadn 0 d15 rfl ?_
    refine X_cVv (as := []) d16 cv_x12_380 ⟨by decide, by decide⟩ rfl (Nat.le_of_ble_eq_true rfl) (T12_layRise M2 a0) (fun M16 _ => ?_)
    refine X_aloadn 0 d19 rfl ?_
    refine X_cVv (as := []) d20 cv_x12_383 ⟨by decide, by decide⟩ rfl (Nat.le_of_ble_eq_true rfl) (T12_layComesUp M16 a0) (fun M20 _ => ?_)
    refine X_aloadn 0 d23 rfl ?_
    refine X_getI d24 fg_x12_255 ?_
    refine X_bWi fun v27 _ => ?_
    refine X_istoren (lv' := [(1, vi v27), (0, vr a0)]) d27 (by decide) rfl ?_
    refine X_iconst k_i_1 d28 ?_
    refine X_istoren (lv' := [(2, vi (1 : Int32)), (1, vi v27), (0, vr a0)]) d29 (by decide) rfl ?_
    refine X_sub [2, 1, 0] rfl ?_
    exact T12_height_b30 M20 a0 v27 (1 : Int32)

theorem dd12_init : AllD (ib i12_init) [(0, .aload_n 0, 1), (1, .invokespecial 1, 3), (4, .aload_n 0, 1), (5, .bipush 8, 2), (7, .newarray .int, 2), (9, .putfield 7, 3), (12, .aload_n 0, 1), (13, .bipush 24, 2), (15, .newarray .int, 2), (17, .putfield 13, 3), (20, .aload_n 0, 1), (21, .sipush 196, 3), (24, .newarray .int, 2), (26, .putfield 16, 3), (29, .aload_n 0, 1), (30, .bipush 48, 2), (32, .newarray .int, 2), (34, .putfield 19, 3), (37, .aload_n 0, 1), (38, .sipush 800, 3), (41, .newarray .int, 2), (43, .putfield 22, 3), (46, .aload_n 0, 1), (47, .iconst (-1), 1), (48, .putfield 25, 3), (51, .aload_n 0, 1), (52, .bipush 40, 2), (54, .newarray .int, 2), (56, .putfield 29, 3), (59, .aload_n 0, 1), (60, .bipush 40, 2), (62, .newarray .int, 2), (64, .putfield 32, 3), (67, .aload_n 0, 1), (68, .sipush 528, 3), (71, .newarray .int, 2), (73, .putfield 35, 3), (76, .aload_n 0, 1), (77, .iconst 4, 1), (78, .newarray .int, 2), (80, .putfield 38, 3), (83, .aload_n 0, 1), (84, .iconst 4, 1), (85, .newarray .int, 2), (87, .putfield 41, 3), (90, .aload_n 0, 1), (91, .iconst 4, 1), (92, .newarray .int, 2), (94, .putfield 44, 3), (97, .aload_n 0, 1), (98, .bipush 12, 2), (100, .newarray .int, 2), (102, .putfield 47, 3), (105, .aload_n 0, 1), (106, .sipush 630, 3), (109, .newarray .long, 2), (111, .putfield 50, 3), (114, .aload_n 0, 1), (115, .sipush 630, 3), (118, .newarray .long, 2), (120, .putfield 54, 3), (123, .aload_n 0, 1), (124, .sipush 4200, 3), (127, .newarray .long, 2), (129, .putfield 57, 3), (132, .aload_n 0, 1), (133, .sipush 200, 3), (136, .newarray .int, 2), (138, .putfield 60, 3), (141, .aload_n 0, 1), (142, .bipush 100, 2), (144, .newarray .int, 2), (146, .putfield 63, 3), (149, .aload_n 0, 1), (150, .iconst 2, 1), (151, .newarray .int, 2), (153, .putfield 66, 3), (156, .aload_n 0, 1), (157, .bipush 30, 2), (159, .newarray .int, 2), (161, .putfield 69, 3), (164, .aload_n 0, 1), (165, .sipush 900, 3), (168, .newarray .boolean, 2), (170, .putfield 72, 3), (173, .aload_n 0, 1), (174, .sipush 205, 3), (177, .newarray .boolean, 2), (179, .putfield 76, 3), (182, .aload_n 0, 1), (183, .bipush 30, 2), (185, .newarray .long, 2), (187, .putfield 79, 3), (190, .aload_n 0, 1), (191, .sipush 150, 3), (194, .newarray .long, 2), (196, .putfield 82, 3), (199, .aload_n 0, 1), (200, .sipush 205, 3), (203, .newarray .long, 2), (205, .putfield 85, 3), (208, .aload_n 0, 1), (209, .sipush 8192, 3), (212, .newarray .int, 2), (214, .putfield 88, 3), (217, .aload_n 0, 1), (218, .ldc 91, 2), (220, .newarray .int, 2), (222, .putfield 92, 3), (225, .aload_n 0, 1), (226, .sipush 8192, 3), (229, .newarray .int, 2), (231, .putfield 95, 3), (234, .aload_n 0, 1), (235, .sipush 8192, 3), (238, .newarray .int, 2), (240, .putfield 98, 3), (243, .aload_n 0, 1), (244, .sipush 8192, 3), (247, .newarray .int, 2), (249, .putfield 101, 3), (252, .aload_n 0, 1), (253, .sipush 8192, 3), (256, .newarray .int, 2), (258, .putfield 104, 3), (261, .aload_n 0, 1), (262, .sipush 16384, 3), (265, .newarray .long, 2), (267, .putfield 107, 3), (270, .aload_n 0, 1), (271, .sipush 8192, 3), (274, .newarray .int, 2), (276, .putfield 110, 3), (279, .return_, 1)] := allD_of (by decide +kernel)
def f12_init (M : MM) (a0 : Nat) : Option MM :=
  gd (a0 ≠ 0) <|
  gd (¬ (8 : Int32) < 0 ∧ (8 : Int32).toNatClampNeg ≤ 60000000) <|
  bW (mz M) fun q7 =>
  bM (nw M 0 (8 : Int32).toNatClampNeg) fun M7 =>
  aO M7 a0 12 <|
  bM (sR M7 a0 1 q7) fun M9 =>
  gd (¬ (24 : Int32) < 0 ∧ (24 : Int32).toNatClampNeg ≤ 60000000) <|
  bW (mz M9) fun q15 =>
  bM (nw M9 0 (24 : Int32).toNatClampNeg) fun M15 =>
  aO M15 a0 12 <|
  bM (sR M15 a0 2 q15) fun M17 =>
  gd (¬ (196 : Int32) < 0 ∧ (196 : Int32).toNatClampNeg ≤ 60000000) <|
  bW (mz M17) fun q24 =>
  bM (nw M17 0 (196 : Int32).toNatClampNeg) fun M24 =>
  aO M24 a0 12 <|
  bM (sR M24 a0 3 q24) fun M26 =>
  gd (¬ (48 : Int32) < 0 ∧ (48 : Int32).toNatClampNeg ≤ 60000000) <|
  bW (mz M26) fun q32 =>
  bM (nw M26 0 (48 : Int32).toNatClampNeg) fun M32 =>
  aO M32 a0 12 <|
  bM (sR M32 a0 4 q32) fun M34 =>
  gd (¬ (800 : Int32) < 0 ∧ (800 : Int32).toNatClampNeg ≤ 60000000) <|
  bW (mz M34) fun q41 =>
  bM (nw M34 0 (800 : Int32).toNatClampNeg) fun M41 =>
  aO M41 a0 12 <|
  bM (sR M41 a0 6 q41) fun M43 =>
  aO M43 a0 12 <|
  bM (sI M43 a0 14 (-1 : Int32)) fun M48 =>
  gd (¬ (40 : Int32) < 0 ∧ (40 : Int32).toNatClampNeg ≤ 60000000) <|
  bW (mz M48) fun q54 =>
  bM (nw M48 0 (40 : Int32).toNatClampNeg) fun M54 =>
  aO M54 a0 12 <|
  bM (sR M54 a0 17 q54) fun M56 =>
  gd (¬ (40 : Int32) < 0 ∧ (40 : Int32).toNatClampNeg ≤ 60000000) <|
  bW (mz M56) fun q62 =>
  bM (nw M56 0 (40 : Int32).toNatClampNeg) fun M62 =>
  aO M62 a0 12 <|
  bM (sR M62 a0 18 q62) fun M64 =>
  gd (¬ (528 : Int32) < 0 ∧ (528 : Int32).toNatClampNeg ≤ 60000000) <|
  bW (mz M64) fun q71 =>
  bM (nw M64 0 (528 : Int32).toNatClampNeg) fun M71 =>
  aO M71 a0 12 <|
  bM (sR M71 a0 22 q71) fun M73 =>
  gd (¬ (4 : Int32) < 0 ∧ (4 : Int32).toNatClampNeg ≤ 60000000) <|
  bW (mz M73) fun q78 =>
  bM (nw M73 0 (4 : Int32).toNatClampNeg) fun M78 =>
  aO M78 a0 12 <|
  bM (sR M78 a0 24 q78) fun M80 =>
  gd (¬ (4 : Int32) < 0 ∧ (4 : Int32).toNatClampNeg ≤ 60000000) <|
  bW (mz M80) fun q85 =>
  bM (nw M80 0 (4 : Int32).toNatClampNeg) fun M85 =>
  aO M85 a0 12 <|
  bM (sR M85 a0 25 q85) fun M87 =>
  gd (¬ (4 : Int32) < 0 ∧ (4 : Int32).toNatClampNeg ≤ 60000000) <|
  bW (mz M87) fun q92 =>
  bM (nw M87 0 (4 : Int32).toNatClampNeg) fun M92 =>
  aO M92 a0 12 <|
  bM (sR M92 a0 26 q92) fun M94 =>
  gd (¬ (12 : Int32) < 0 ∧ (12 : Int32).toNatClampNeg ≤ 60000000) <|
  bW (mz M94) fun q100 =>
  bM (nw M94 0 (12 : Int32).toNatClampNeg) fun M100 =>
  aO M100 a0 12 <|
  bM (sR M100 a0 27 q100) fun M102 =>
  gd (¬ (630 : Int32) < 0 ∧ (630 : Int32).toNatClampNeg ≤ 60000000) <|
  bW (mz M102) fun q109 =>
  bM (nw M102 1 (630 : Int32).toNatClampNeg) fun M109 =>
  aO M109 a0 12 <|
  bM (sR M109 a0 28 q109) fun M111 =>
  gd (¬ (630 : Int32) < 0 ∧ (630 : Int32).toNatClampNeg ≤ 60000000) <|
  bW (mz M111) fun q118 =>
  bM (nw M111 1 (630 : Int32).toNatClampNeg) fun M118 =>
  aO M118 a0 12 <|
  bM (sR M118 a0 29 q118) fun M120 =>
  gd (¬ (4200 : Int32) < 0 ∧ (4200 : Int32).toNatClampNeg ≤ 60000000) <|
  bW (mz M120) fun q127 =>
  bM (nw M120 1 (4200 : Int32).toNatClampNeg) fun M127 =>
  aO M127 a0 12 <|
  bM (sR M127 a0 32 q127) fun M129 =>
  gd (¬ (200 : Int32) < 0 ∧ (200 : Int32).toNatClampNeg ≤ 60000000) <|
  bW (mz M129) fun q136 =>
  bM (nw M129 0 (200 : Int32).toNatClampNeg) fun M136 =>
  aO M136 a0 12 <|
  bM (sR M136 a0 33 q136) fun M138 =>
  gd (¬ (100 : Int32) < 0 ∧ (100 : Int32).toNatClampNeg ≤ 60000000) <|
  bW (mz M138) fun q144 =>
  bM (nw M138 0 (100 : Int32).toNatClampNeg) fun M144 =>
  aO M144 a0 12 <|
  bM (sR M144 a0 34 q144) fun M146 =>
  gd (¬ (2 : Int32) < 0 ∧ (2 : Int32).toNatClampNeg ≤ 60000000) <|
  bW (mz M146) fun q151 =>
  bM (nw M146 0 (2 : Int32).toNatClampNeg) fun M151 =>
  aO M151 a0 12 <|
  bM (sR M151 a0 35 q151) fun M153 =>
  gd (¬ (30 : Int32) < 0 ∧ (30 : Int32).toNatClampNeg ≤ 60000000) <|
  bW (mz M153) fun q159 =>
  bM (nw M153 0 (30 : Int32).toNatClampNeg) fun M159 =>
  aO M159 a0 12 <|
  bM (sR M159 a0 37 q159) fun M161 =>
  gd (¬ (900 : Int32) < 0 ∧ (900 : Int32).toNatClampNeg ≤ 60000000) <|
  bW (mz M161) fun q168 =>
  bM (nw M161 2 (900 : Int32).toNatClampNeg) fun M168 =>
  aO M168 a0 12 <|
  bM (sR M168 a0 38 q168) fun M170 =>
  gd (¬ (205 : Int32) < 0 ∧ (205 : Int32).toNatClampNeg ≤ 60000000) <|
  bW (mz M170) fun q177 =>
  bM (nw M170 2 (205 : Int32).toNatClampNeg) fun M177 =>
  aO M177 a0 12 <|
  bM (sR M177 a0 39 q177) fun M179 =>
  gd (¬ (30 : Int32) < 0 ∧ (30 : Int32).toNatClampNeg ≤ 60000000) <|
  bW (mz M179) fun q185 =>
  bM (nw M179 1 (30 : Int32).toNatClampNeg) fun M185 =>
  aO M185 a0 12 <|
  bM (sR M185 a0 40 q185) fun M187 =>
  gd (¬ (150 : Int32) < 0 ∧ (150 : Int32).toNatClampNeg ≤ 60000000) <|
  bW (mz M187) fun q194 =>
  bM (nw M187 1 (150 : Int32).toNatClampNeg) fun M194 =>
  aO M194 a0 12 <|
  bM (sR M194 a0 41 q194) fun M196 =>
  gd (¬ (205 : Int32) < 0 ∧ (205 : Int32).toNatClampNeg ≤ 60000000) <|
  bW (mz M196) fun q203 =>
  bM (nw M196 1 (205 : Int32).toNatClampNeg) fun M203 =>
  aO M203 a0 12 <|
  bM (sR M203 a0 42 q203) fun M205 =>
  gd (¬ (8192 : Int32) < 0 ∧ (8192 : Int32).toNatClampNeg ≤ 60000000) <|
  bW (mz M205) fun q212 =>
  bM (nw M205 0 (8192 : Int32).toNatClampNeg) fun M212 =>
  aO M212 a0 12 <|
  bM (sR M212 a0 43 q212) fun M214 =>
  gd (¬ (49152 : Int32) < 0 ∧ (49152 : Int32).toNatClampNeg ≤ 60000000) <|
  bW (mz M214) fun q220 =>
  bM (nw M214 0 (49152 : Int32).toNatClampNeg) fun M220 =>
  aO M220 a0 12 <|
  bM (sR M220 a0 44 q220) fun M222 =>
  gd (¬ (8192 : Int32) < 0 ∧ (8192 : Int32).toNatClampNeg ≤ 60000000) <|
  bW (mz M222) fun q229 =>
  bM (nw M222 0 (8192 : Int32).toNatClampNeg) fun M229 =>
  aO M229 a0 12 <|
  bM (sR M229 a0 45 q229) fun M231 =>
  gd (¬ (8192 : Int32) < 0 ∧ (8192 : Int32).toNatClampNeg ≤ 60000000) <|
  bW (mz M231) fun q238 =>
  bM (nw M231 0 (8192 : Int32).toNatClampNeg) fun M238 =>
  aO M238 a0 12 <|
  bM (sR M238 a0 46 q238) fun M240 =>
  gd (¬ (8192 : Int32) < 0 ∧ (8192 : Int32).toNatClampNeg ≤ 60000000) <|
  bW (mz M240) fun q247 =>
  bM (nw M240 0 (8192 : Int32).toNatClampNeg) fun M247 =>
  aO M247 a0 12 <|
  bM (sR M247 a0 50 q247) fun M249 =>
  gd (¬ (8192 : Int32) < 0 ∧ (8192 : Int32).toNatClampNeg ≤ 60000000) <|
  bW (mz M249) fun q256 =>
  bM (nw M249 0 (8192 : Int32).toNatClampNeg) fun M256 =>
  aO M256 a0 12 <|
  bM (sR M256 a0 51 q256) fun M258 =>
  gd (¬ (16384 : Int32) < 0 ∧ (16384 : Int32).toNatClampNeg ≤ 60000000) <|
  bW (mz M258) fun q265 =>
  bM (nw M258 1 (16384 : Int32).toNatClampNeg) fun M265 =>
  aO M265 a0 12 <|
  bM (sR M265 a0 53 q265) fun M267 =>
  gd (¬ (8192 : Int32) < 0 ∧ (8192 : Int32).toNatClampNeg ≤ 60000000) <|
  bW (mz M267) fun q274 =>
  bM (nw M267 0 (8192 : Int32).toNatClampNeg) fun M274 =>
  aO M274 a0 12 <|
  bM (sR M274 a0 54 q274) fun M276 =>
  some M276
set_option maxRecDepth 4000 in
theorem T12_init (M : MM) (a0 : Nat) : ∀ q, f12_init M a0 = some q → Run i12_init [vr a0] M (Lv q) := by
  obtain ⟨d0, d1, d4, d5, d7, d9, d12, d13, d15, d17, d20, d21, d24, d26, d29, d30, d32, d34, d37, d38, d41, d43, d46, d47, d48, d51, d52, d54, d56, d59, d60, d62, d64, d67, d68, d71, d73, d76, d77, d78, d80, d83, d84, d85, d87, d90, d91, d92, d94, d97, d98, d100, d102, d105, d106, d109, d111, d114, d115, d118, d120, d123, d124, d127, d129, d132, d133, d136, d138, d141, d142, d144, d146, d149, d150, d151, d153, d156, d157, d159, d161, d164, d165, d168, d170, d173, d174, d177, d179, d182, d183, d185, d187, d190, d191, d194, d196, d199, d200, d203, d205, d208, d209, d212, d214, d217, d218, d220, d222, d225, d226, d229, d231, d234, d235, d238, d240, d243, d244, d247, d249, d252, d253, d256, d258, d261, d262, d265, d267, d270, d271, d274, d276, d279, -⟩ := dd12_init
  refine Run_of_X (by decide) (Nat.le_of_ble_eq_true rfl) ?_
  show X Lv i12_init 0 [(0, vr a0)] [] M _
  unfold f12_init
  refine X_aloadn 0 d0 rfl ?_
  refine X_objInit d1 oi_x12_1 (by decide) (Nat.le_of_ble_eq_true rfl) ?_
  refine X_aloadn 0 d4 rfl ?_
  refine X_bipush k_b_8 d5 ?_
  refine X_newI d7 ac_int ?_
  refine X_bWr fun q7 _ => ?_
  refine X_bM fun M7 _ => ?_
  refine X_putRF d9 fp_x12_7 (RefT.arr _) rfl rfl ?_
  refine X_bM fun M9 _ => ?_
  refine X_aloadn 0 d12 rfl ?_
  refine X_bipush k_b_24 d13 ?_
  refine X_newI d15 ac_int ?_
  refine X_bWr fun q15 _ => ?_
  refine X_bM fun M15 _ => ?_
  refine X_putRF d17 fp_x12_13 (RefT.arr _) rfl rfl ?_
  refine X_bM fun M17 _ => ?_
  refine X_aloadn 0 d20 rfl ?_
  refine X_sipush k_s_196 d21 ?_
  refine X_newI d24 ac_int ?_
  refine X_bWr fun q24 _ => ?_
  refine X_bM fun M24 _ => ?_
  refine X_putRF d26 fp_x12_16 (RefT.arr _) rfl rfl ?_
  refine X_bM fun M26 _ => ?_
  refine X_aloadn 0 d29 rfl ?_
  refine X_bipush k_b_48 d30 ?_
  refine X_newI d32 ac_int ?_
  refine X_bWr fun q32 _ => ?_
  refine X_bM fun M32 _ => ?_
  refine X_putRF d34 fp_x12_19 (RefT.arr _) rfl rfl ?_
  refine X_bM fun M34 _ => ?_
  refine X_aloadn 0 d37 rfl ?_
  refine X_sipush k_s_800 d38 ?_
  refine X_newI d41 ac_int ?_
  refine X_bWr fun q41 _ => ?_
  refine X_bM fun M41 _ => ?_
  refine X_putRF d43 fp_x12_22 (RefT.arr _) rfl rfl ?_
  refine X_bM fun M43 _ => ?_
  refine X_aloadn 0 d46 rfl ?_
  refine X_iconst k_i_m1 d47 ?_
  refine X_putI d48 fp_x12_25 ?_
  refine X_bM fun M48 _ => ?_
  refine X_aloadn 0 d51 rfl ?_
  refine X_bipush k_b_40 d52 ?_
  refine X_newI d54 ac_int ?_
  refine X_bWr fun q54 _ => ?_
  refine X_bM fun M54 _ => ?_
  refine X_putRF d56 fp_x12_29 (RefT.arr _) rfl rfl ?_
  refine X_bM fun M56 _ => ?_
  refine X_aloadn 0 d59 rfl ?_
  refine X_bipush k_b_40 d60 ?_
  refine X_newI d62 ac_int ?_
  refine X_bWr fun q62 _ => ?_
  refine X_bM fun M62 _ => ?_
  refine X_putRF d64 fp_x12_32 (RefT.arr _) rfl rfl ?_
  refine X_bM fun M64 _ => ?_
  refine X_aloadn 0 d67 rfl ?_
  refine X_sipush k_s_528 d68 ?_
  refine X_newI d71 ac_int ?_
  refine X_bWr fun q71 _ => ?_
  refine X_bM fun M71 _ => ?_
  refine X_putRF d73 fp_x12_35 (RefT.arr _) rfl rfl ?_
  refine X_bM fun M73 _ => ?_
  refine X_aloadn 0 d76 rfl ?_
  refine X_iconst k_i_4 d77 ?_
  refine X_newI d78 ac_int ?_
  refine X_bWr fun q78 _ => ?_
  refine X_bM fun M78 _ => ?_
  refine X_putRF d80 fp_x12_38 (RefT.arr _) rfl rfl ?_
  refine X_bM fun M80 _ => ?_
  refine X_aloadn 0 d83 rfl ?_
  refine X_iconst k_i_4 d84 ?_
  refine X_newI d85 ac_int ?_
  refine X_bWr fun q85 _ => ?_
  refine X_bM fun M85 _ => ?_
  refine X_putRF d87 fp_x12_41 (RefT.arr _) rfl rfl ?_
  refine X_bM fun M87 _ => ?_
  refine X_aloadn 0 d90 rfl ?_
  refine X_iconst k_i_4 d91 ?_
  refine X_newI d92 ac_int ?_
  refine X_bWr fun q92 _ => ?_
  refine X_bM fun M92 _ => ?_
  refine X_putRF d94 fp_x12_44 (RefT.arr _) rfl rfl ?_
  refine X_bM fun M94 _ => ?_
  refine X_aloadn 0 d97 rfl ?_
  refine X_bipush k_b_12 d98 ?_
  refine X_newI d100 ac_int ?_
  refine X_bWr fun q100 _ => ?_
  refine X_bM fun M100 _ => ?_
  refine X_putRF d102 fp_x12_47 (RefT.arr _) rfl rfl ?_
  refine X_bM fun M102 _ => ?_
  refine X_aloadn 0 d105 rfl ?_
  refine X_sipush k_s_630 d106 ?_
  refine X_newJ d109 ac_long ?_
  refine X_bWr fun q109 _ => ?_
  refine X_bM fun M109 _ => ?_
  refine X_putRF d111 fp_x12_50 (RefT.arr _) rfl rfl ?_
  refine X_bM fun M111 _ => ?_
  refine X_aloadn 0 d114 rfl ?_
  refine X_sipush k_s_630 d115 ?_
  refine X_newJ d118 ac_long ?_
  refine X_bWr fun q118 _ => ?_
  refine X_bM fun M118 _ => ?_
  refine X_putRF d120 fp_x12_54 (RefT.arr _) rfl rfl ?_
  refine X_bM fun M120 _ => ?_
  refine X_aloadn 0 d123 rfl ?_
  refine X_sipush k_s_4200 d124 ?_
  refine X_newJ d127 ac_long ?_
  refine X_bWr fun q127 _ => ?_
  refine X_bM fun M127 _ => ?_
  refine X_putRF d129 fp_x12_57 (RefT.arr _) rfl rfl ?_
  refine X_bM fun M129 _ => ?_
  refine X_aloadn 0 d132 rfl ?_
  refine X_sipush k_s_200 d133 ?_
  refine X_newI d136 ac_int ?_
  refine X_bWr fun q136 _ => ?_
  refine X_bM fun M136 _ => ?_
  refine X_putRF d138 fp_x12_60 (RefT.arr _) rfl rfl ?_
  refine X_bM fun M138 _ => ?_
  refine X_aloadn 0 d141 rfl ?_
  refine X_bipush k_b_100 d142 ?_
  refine X_newI d144 ac_int ?_
  refine X_bWr fun q144 _ => ?_
  refine X_bM fun M144 _ => ?_
  refine X_putRF d146 fp_x12_63 (RefT.arr _) rfl rfl ?_
  refine X_bM fun M146 _ => ?_
  refine X_aloadn 0 d149 rfl ?_
  refine X_iconst k_i_2 d150 ?_
  refine X_newI d151 ac_int ?_
  refine X_bWr fun q151 _ => ?_
  refine X_bM fun M151 _ => ?_
  refine X_putRF d153 fp_x12_66 (RefT.arr _) rfl rfl ?_
  refine X_bM fun M153 _ => ?_
  refine X_aloadn 0 d156 rfl ?_
  refine X_bipush k_b_30 d157 ?_
  refine X_newI d159 ac_int ?_
  refine X_bWr fun q159 _ => ?_
  refine X_bM fun M159 _ => ?_
  refine X_putRF d161 fp_x12_69 (RefT.arr _) rfl rfl ?_
  refine X_bM fun M161 _ => ?_
  refine X_aloadn 0 d164 rfl ?_
  refine X_sipush k_s_900 d165 ?_
  refine X_newZ d168 ac_boolean ?_
  refine X_bWr fun q168 _ => ?_
  refine X_bM fun M168 _ => ?_
  refine X_putRF d170 fp_x12_72 (RefT.arr _) rfl rfl ?_
  refine X_bM fun M170 _ => ?_
  refine X_aloadn 0 d173 rfl ?_
  refine X_sipush k_s_205 d174 ?_
  refine X_newZ d177 ac_boolean ?_
  refine X_bWr fun q177 _ => ?_
  refine X_bM fun M177 _ => ?_
  refine X_putRF d179 fp_x12_76 (RefT.arr _) rfl rfl ?_
  refine X_bM fun M179 _ => ?_
  refine X_aloadn 0 d182 rfl ?_
  refine X_bipush k_b_30 d183 ?_
  refine X_newJ d185 ac_long ?_
  refine X_bWr fun q185 _ => ?_
  refine X_bM fun M185 _ => ?_
  refine X_putRF d187 fp_x12_79 (RefT.arr _) rfl rfl ?_
  refine X_bM fun M187 _ => ?_
  refine X_aloadn 0 d190 rfl ?_
  refine X_sipush k_s_150 d191 ?_
  refine X_newJ d194 ac_long ?_
  refine X_bWr fun q194 _ => ?_
  refine X_bM fun M194 _ => ?_
  refine X_putRF d196 fp_x12_82 (RefT.arr _) rfl rfl ?_
  refine X_bM fun M196 _ => ?_
  refine X_aloadn 0 d199 rfl ?_
  refine X_sipush k_s_205 d200 ?_
  refine X_newJ d203 ac_long ?_
  refine X_bWr fun q203 _ => ?_
  refine X_bM fun M203 _ => ?_
  refine X_putRF d205 fp_x12_85 (RefT.arr _) rfl rfl ?_
  refine X_bM fun M205 _ => ?_
  refine X_aloadn 0 d208 rfl ?_
  refine X_sipush k_s_8192 d209 ?_
  refine X_newI d212 ac_int ?_
  refine X_bWr fun q212 _ => ?_
  refine X_bM fun M212 _ => ?_
  refine X_putRF d214 fp_x12_88 (RefT.arr _) rfl rfl ?_
  refine X_bM fun M214 _ => ?_
  refine X_aloadn 0 d217 rfl ?_
  refine X_ldc kc_x12_91 d218 ?_
  refine X_newI d220 ac_int ?_
  refine X_bWr fun q220 _ => ?_
  refine X_bM fun M220 _ => ?_
  refine X_putRF d222 fp_x12_92 (RefT.arr _) rfl rfl ?_
  refine X_bM fun M222 _ => ?_
  refine X_aloadn 0 d225 rfl ?_
  refine X_sipush k_s_8192 d226 ?_
  refine X_newI d229 ac_int ?_
  refine X_bWr fun q229 _ => ?_
  refine X_bM fun M229 _ => ?_
  refine X_putRF d231 fp_x12_95 (RefT.arr _) rfl rfl ?_
  refine X_bM fun M231 _ => ?_
  refine X_aloadn 0 d234 rfl ?_
  refine X_sipush k_s_8192 d235 ?_
  refine X_newI d238 ac_int ?_
  refine X_bWr fun q238 _ => ?_
  refine X_bM fun M238 _ => ?_
  refine X_putRF d240 fp_x12_98 (RefT.arr _) rfl rfl ?_
  refine X_bM fun M240 _ => ?_
  refine X_aloadn 0 d243 rfl ?_
  refine X_sipush k_s_8192 d244 ?_
  refine X_newI d247 ac_int ?_
  refine X_bWr fun q247 _ => ?_
  refine X_bM fun M247 _ => ?_
  refine X_putRF d249 fp_x12_101 (RefT.arr _) rfl rfl ?_
  refine X_bM fun M249 _ => ?_
  refine X_aloadn 0 d252 rfl ?_
  refine X_sipush k_s_8192 d253 ?_
  refine X_newI d256 ac_int ?_
  refine X_bWr fun q256 _ => ?_
  refine X_bM fun M256 _ => ?_
  refine X_putRF d258 fp_x12_104 (RefT.arr _) rfl rfl ?_
  refine X_bM fun M258 _ => ?_
  refine X_aloadn 0 d261 rfl ?_
  refine X_sipush k_s_16384 d262 ?_
  refine X_newJ d265 ac_long ?_
  refine X_bWr fun q265 _ => ?_
  refine X_bM fun M265 _ => ?_
  refine X_putRF d267 fp_x12_107 (RefT.arr _) rfl rfl ?_
  refine X_bM fun M267 _ => ?_
  refine X_aloadn 0 d270 rfl ?_
  refine X_sipush k_s_8192 d271 ?_
  refine X_newI d274 ac_int ?_
  refine X_bWr fun q274 _ => ?_
  refine X_bM fun M274 _ => ?_
  refine X_putRF d276 fp_x12_110 (RefT.arr _) rfl rfl ?_
  refine X_bM fun M276 _ => ?_
  exact X_vreturn d279 rfl rfl

theorem dd12_isAt_b70 : AllD (ib i12_isAt) [(70, .iconst 1, 1), (71, .goto 4, 3)] := allD_of (by decide +kernel)
def f12_isAt_b70 (K75 : MM → Nat → Int32 → Nat → Int32 → Int32 → Int32 → Int32 → Option (Int32 × MM)) (M : MM) (a0 : Nat) (a1 : Int32) (a2 : Nat) (a3 : Int32) (a4 : Int32) (a5 : Int32) : Option (Int32 × MM) :=
  K75 M a0 a1 a2 a3 a4 a5 (1 : Int32)
set_option maxRecDepth 4000 in
theorem T12_isAt_b70 {K75 : MM → Nat → Int32 → Nat → Int32 → Int32 → Int32 → Int32 → Option (Int32 × MM)} (hK75 : ∀ (M : MM) (a0 : Nat) (a1 : Int32) (a2 : Nat) (a3 : Int32) (a4 : Int32) (a5 : Int32) (s0 : Int32), X Li i12_isAt 75 [(0, vr a0), (1, vi a1), (2, vr a2), (3, vi a3), (4, vi a4), (5, vi a5)] [vi s0] M (K75 M a0 a1 a2 a3 a4 a5 s0)) : ∀ (M : MM) (a0 : Nat) (a1 : Int32) (a2 : Nat) (a3 : Int32) (a4 : Int32) (a5 : Int32), X Li i12_isAt 70 [(0, vr a0), (1, vi a1), (2, vr a2), (3, vi a3), (4, vi a4), (5, vi a5)] [] M (f12_isAt_b70 K75 M a0 a1 a2 a3 a4 a5) := by
  obtain ⟨d70, d71, -⟩ := dd12_isAt_b70
  intro M a0 a1 a2 a3 a4 a5
  unfold f12_isAt_b70
  refine X_iconst k_i_1 d70 ?_
  refine X_goto (t := 75) d71 rfl ?_
  exact hK75 M a0 a1 a2 a3 a4 a5 (1 : Int32)

theorem dd12_isAt_b74 : AllD (ib i12_isAt) [(74, .iconst 0, 1)] := allD_of (by decide +kernel)
def f12_isAt_b74 (K75 : MM → Nat → Int32 → Nat → Int32 → Int32 → Int32 → Int32 → Option (Int32 × MM)) (M : MM) (a0 : Nat) (a1 : Int32) (a2 : Nat) (a3 : Int32) (a4 : Int32) (a5 : Int32) : Option (Int32 × MM) :=
  K75 M a0 a1 a2 a3 a4 a5 (0 : Int32)
set_option maxRecDepth 4000 in
theorem T12_isAt_b74 {K75 : MM → Nat → Int32 → Nat → Int32 → Int32 → Int32 → Int32 → Option (Int32 × MM)} (hK75 : ∀ (M : MM) (a0 : Nat) (a1 : Int32) (a2 : Nat) (a3 : Int32) (a4 : Int32) (a5 : Int32) (s0 : Int32), X Li i12_isAt 75 [(0, vr a0), (1, vi a1), (2, vr a2), (3, vi a3), (4, vi a4), (5, vi a5)] [vi s0] M (K75 M a0 a1 a2 a3 a4 a5 s0)) : ∀ (M : MM) (a0 : Nat) (a1 : Int32) (a2 : Nat) (a3 : Int32) (a4 : Int32) (a5 : Int32), X Li i12_isAt 74 [(0, vr a0), (1, vi a1), (2, vr a2), (3, vi a3), (4, vi a4), (5, vi a5)] [] M (f12_isAt_b74 K75 M a0 a1 a2 a3 a4 a5) := by
  obtain ⟨d74, -⟩ := dd12_isAt_b74
  intro M a0 a1 a2 a3 a4 a5
  unfold f12_isAt_b74
  refine X_iconst k_i_0 d74 ?_
  exact hK75 M a0 a1 a2 a3 a4 a5 (0 : Int32)

theorem dd12_isAt_b123 : AllD (ib i12_isAt) [(123, .istore 6, 2), (125, .iinc 7 1, 3), (128, .goto (-48), 3)] := allD_of (by decide +kernel)
def f12_isAt_b123 (K80 : MM → Nat → Int32 → Nat → Int32 → Int32 → Int32 → Int32 → Int32 → Option (Int32 × MM)) (M : MM) (a0 : Nat) (a1 : Int32) (a2 : Nat) (a3 : Int32) (a4 : Int32) (a5 : Int32) (a7 : Int32) (s0 : Int32) : Option (Int32 × MM) :=
  K80 M a0 a1 a2 a3 a4 a5 s0 (a7 + (1 : Int32))
set_option maxRecDepth 4000 in
theorem T12_isAt_b123 {K80 : MM → Nat → Int32 → Nat → Int32 → Int32 → Int32 → Int32 → Int32 → Option (Int32 × MM)} (hK80 : ∀ (M : MM) (a0 : Nat) (a1 : Int32) (a2 : Nat) (a3 : Int32) (a4 : Int32) (a5 : Int32) (a6 : Int32) (a7 : Int32), X Li i12_isAt 80 [(0, vr a0), (1, vi a1), (2, vr a2), (3, vi a3), (4, vi a4), (5, vi a5), (6, vi a6), (7, vi a7)] [] M (K80 M a0 a1 a2 a3 a4 a5 a6 a7)) : ∀ (M : MM) (a0 : Nat) (a1 : Int32) (a2 : Nat) (a3 : Int32) (a4 : Int32) (a5 : Int32) (a7 : Int32) (s0 : Int32), X Li i12_isAt 123 [(0, vr a0), (1, vi a1), (2, vr a2), (3, vi a3), (4, vi a4), (5, vi a5), (7, vi a7)] [vi s0] M (f12_isAt_b123 K80 M a0 a1 a2 a3 a4 a5 a7 s0) := by
  obtain ⟨d123, d125, d128, -⟩ := dd12_isAt_b123
  intro M a0 a1 a2 a3 a4 a5 a7 s0
  unfold f12_isAt_b123
  refine X_istore (lv' := [(6, vi s0), (0, vr a0), (1, vi a1), (2, vr a2), (3, vi a3), (4, vi a4), (5, vi a5), (7, vi a7)]) d123 (by decide) rfl ?_
  refine X_inc (lv' := [(7, vi (a7 + (1 : Int32))), (6, vi s0), (0, vr a0), (1, vi a1), (2, vr a2), (3, vi a3), (4, vi a4), (5, vi a5)]) 7 d125 k_i_1 rfl (by decide) rfl ?_
  refine X_goto (t := 80) d128 rfl ?_
  refine X_sub [2, 3, 4, 5, 6, 7, 1, 0] rfl ?_
  exact hK80 M a0 a1 a2 a3 a4 a5 s0 (a7 + (1 : Int32))

theorem dd12_isAt_b131 : AllD (ib i12_isAt) [(131, .iload 6, 2), (133, .ifCond .eq 5, 3), (136, .iconst 1, 1), (137, .ireturn, 1), (138, .iinc 4 1, 3), (141, .goto (-138), 3)] := allD_of (by decide +kernel)
def f12_isAt_b131 (K3 : MM → Nat → Int32 → Nat → Int32 → Int32 → Option (Int32 × MM)) (M : MM) (a0 : Nat) (a1 : Int32) (a2 : Nat) (a3 : Int32) (a4 : Int32) (a6 : Int32) : Option (Int32 × MM) :=
  if a6 = 0 then
    K3 M a0 a1 a2 a3 (a4 + (1 : Int32))
  else
    some ((1 : Int32), M)
set_option maxRecDepth 4000 in
theorem T12_isAt_b131 {K3 : MM → Nat → Int32 → Nat → Int32 → Int32 → Option (Int32 × MM)} (hK3 : ∀ (M : MM) (a0 : Nat) (a1 : Int32) (a2 : Nat) (a3 : Int32) (a4 : Int32), X Li i12_isAt 3 [(0, vr a0), (1, vi a1), (2, vr a2), (3, vi a3), (4, vi a4)] [] M (K3 M a0 a1 a2 a3 a4)) : ∀ (M : MM) (a0 : Nat) (a1 : Int32) (a2 : Nat) (a3 : Int32) (a4 : Int32) (a6 : Int32), X Li i12_isAt 131 [(0, vr a0), (1, vi a1), (2, vr a2), (3, vi a3), (4, vi a4), (6, vi a6)] [] M (f12_isAt_b131 K3 M a0 a1 a2 a3 a4 a6) := by
  obtain ⟨d131, d133, d136, d137, d138, d141, -⟩ := dd12_isAt_b131
  intro M a0 a1 a2 a3 a4 a6
  unfold f12_isAt_b131
  refine X_iload 5 d131 rfl ?_
  refine X_if_eq (t := 138) d133 rfl (fun h133 => ?_) (fun h133 => ?_)
  · refine X_inc (lv' := [(4, vi (a4 + (1 : Int32))), (0, vr a0), (1, vi a1), (2, vr a2), (3, vi a3), (6, vi a6)]) 4 d138 k_i_1 rfl (by decide) rfl ?_
    refine X_goto (t := 3) d141 rfl ?_
    refine X_sub [1, 2, 3, 4, 0] rfl ?_
    exact hK3 M a0 a1 a2 a3 (a4 + (1 : Int32))
  · refine X_iconst k_i_1 d136 ?_
    exact X_zreturnc d137 rfl (by decide) rfl

theorem dd12_isAt_b80 : AllD (ib i12_isAt) [(80, .iload 7, 2), (82, .iload 5, 2), (84, .if_icmp .ge 47, 3), (87, .iload 6, 2), (89, .ifCond .eq 42, 3), (92, .aload_n 2, 1), (93, .iload_n 3, 1), (94, .iconst 1, 1), (95, .isub, 1), (96, .iload 7, 2), (98, .isub, 1), (99, .iaload, 1), (100, .aload_n 0, 1), (101, .getfield 19, 3), (104, .bipush 6, 2), (106, .iload 4, 2), (108, .imul, 1), (109, .iconst 3, 1), (110, .iadd, 1), (111, .iload 7, 2), (113, .iadd, 1), (114, .iaload, 1), (115, .if_icmp .ne 7, 3), (118, .iconst 1, 1), (119, .goto 4, 3), (122, .iconst 0, 1)] := allD_of (by decide +kernel)
def f12_isAt_b80_body (K3 : MM → Nat → Int32 → Nat → Int32 → Int32 → Option (Int32 × MM)) (rc : MM → Nat → Int32 → Nat → Int32 → Int32 → Int32 → Int32 → Int32 → Option (Int32 × MM)) (M : MM) (a0 : Nat) (a1 : Int32) (a2 : Nat) (a3 : Int32) (a4 : Int32) (a5 : Int32) (a6 : Int32) (a7 : Int32) : Option (Int32 × MM) :=
  if a5 ≤ a7 then
    (f12_isAt_b131 K3) M a0 a1 a2 a3 a4 a6
  else
    if a6 = 0 then
      (f12_isAt_b131 K3) M a0 a1 a2 a3 a4 a6
    else
      aA M a2 0 ((a3 - (1 : Int32)) - a7) <|
      aO M a0 12 <|
      aA M (mR M a0 4) 0 ((((6 : Int32) * a4) + (3 : Int32)) + a7) <|
      if (mI M a2 ((a3 - (1 : Int32)) - a7).toNatClampNeg) = (mI M (mR M a0 4) ((((6 : Int32) * a4) + (3 : Int32)) + a7).toNatClampNeg) then
        (f12_isAt_b123 rc) M a0 a1 a2 a3 a4 a5 a7 (1 : Int32)
      else
        (f12_isAt_b123 rc) M a0 a1 a2 a3 a4 a5 a7 (0 : Int32)
def f12_isAt_b80 (K3 : MM → Nat → Int32 → Nat → Int32 → Int32 → Option (Int32 × MM)) : MM → Nat → Int32 → Nat → Int32 → Int32 → Int32 → Int32 → Int32 → Option (Int32 × MM) := LP9 (f12_isAt_b80_body K3) FU
set_option maxRecDepth 4000 in
theorem T12_isAt_b80 {K3 : MM → Nat → Int32 → Nat → Int32 → Int32 → Option (Int32 × MM)} (hK3 : ∀ (M : MM) (a0 : Nat) (a1 : Int32) (a2 : Nat) (a3 : Int32) (a4 : Int32), X Li i12_isAt 3 [(0, vr a0), (1, vi a1), (2, vr a2), (3, vi a3), (4, vi a4)] [] M (K3 M a0 a1 a2 a3 a4)) : ∀ (M : MM) (a0 : Nat) (a1 : Int32) (a2 : Nat) (a3 : Int32) (a4 : Int32) (a5 : Int32) (a6 : Int32) (a7 : Int32), X Li i12_isAt 80 [(0, vr a0), (1, vi a1), (2, vr a2), (3, vi a3), (4, vi a4), (5, vi a5), (6, vi a6), (7, vi a7)] [] M (f12_isAt_b80 K3 M a0 a1 a2 a3 a4 a5 a6 a7) := by
  obtain ⟨d80, d82, d84, d87, d89, d92, d93, d94, d95, d96, d98, d99, d100, d101, d104, d106, d108, d109, d110, d111, d113, d114, d115, d118, d119, d122, -⟩ := dd12_isAt_b80
  refine LP9_i (P := fun M a0 a1 a2 a3 a4 a5 a6 a7 o => X Li i12_isAt 80 [(0, vr a0), (1, vi a1), (2, vr a2), (3, vi a3), (4, vi a4), (5, vi a5), (6, vi a6), (7, vi a7)] [] M o) (fun _ _ _ _ _ _ _ _ _ => X_none) (fun rc ih M a0 a1 a2 a3 a4 a5 a6 a7 => ?_) FU
  unfold f12_isAt_b80_body
  refine X_iload 7 d80 rfl ?_
  refine X_iload 5 d82 rfl ?_
  refine X_icmp_ge (t := 131) d84 rfl (fun h84 => ?_) (fun h84 => ?_)
  · refine X_sub [0, 1, 2, 3, 4, 6] rfl ?_
    exact (T12_isAt_b131 hK3) M a0 a1 a2 a3 a4 a6
  · refine X_iload 6 d87 rfl ?_
    refine X_if_eq (t := 131) d89 rfl (fun h89 => ?_) (fun h89 => ?_)
    · refine X_sub [0, 1, 2, 3, 4, 6] rfl ?_
      exact (T12_isAt_b131 hK3) M a0 a1 a2 a3 a4 a6
    · refine X_aloadn 2 d92 rfl ?_
      refine X_iloadn 3 d93 rfl ?_
      refine X_iconst k_i_1 d94 ?_
      refine X_isub d95 ?_
      refine X_iload 7 d96 rfl ?_
      refine X_isub d98 ?_
      refine X_iaload d99 ?_
      refine X_aloadn 0 d100 rfl ?_
      refine X_getR d101 fg_x12_19 ?_
      refine X_bipush k_b_6 d104 ?_
      refine X_iload 4 d106 rfl ?_
      refine X_imul d108 ?_
      refine X_iconst k_i_3 d109 ?_
      refine X_iadd d110 ?_
      refine X_iload 7 d111 rfl ?_
      refine X_iadd d113 ?_
      refine X_iaload d114 ?_
      refine X_icmp_ne (t := 122) d115 rfl (fun h115 => ?_) (fun h115 => ?_)
      · refine X_iconst k_i_1 d118 ?_
        refine X_goto (t := 123) d119 rfl ?_
        refine X_sub [0, 1, 2, 3, 4, 5, 7] rfl ?_
        exact (T12_isAt_b123 ih) M a0 a1 a2 a3 a4 a5 a7 (1 : Int32)
      · refine X_iconst k_i_0 d122 ?_
        refine X_sub [0, 1, 2, 3, 4, 5, 7] rfl ?_
        exact (T12_isAt_b123 ih) M a0 a1 a2 a3 a4 a5 a7 (0 : Int32)

theorem dd12_isAt_b75 : AllD (ib i12_isAt) [(75, .istore 6, 2), (77, .iconst 0, 1), (78, .istore 7, 2)] := allD_of (by decide +kernel)
def f12_isAt_b75 (K3 : MM → Nat → Int32 → Nat → Int32 → Int32 → Option (Int32 × MM)) (M : MM) (a0 : Nat) (a1 : Int32) (a2 : Nat) (a3 : Int32) (a4 : Int32) (a5 : Int32) (s0 : Int32) : Option (Int32 × MM) :=
  (f12_isAt_b80 K3) M a0 a1 a2 a3 a4 a5 s0 (0 : Int32)
set_option maxRecDepth 4000 in
theorem T12_isAt_b75 {K3 : MM → Nat → Int32 → Nat → Int32 → Int32 → Option (Int32 × MM)} (hK3 : ∀ (M : MM) (a0 : Nat) (a1 : Int32) (a2 : Nat) (a3 : Int32) (a4 : Int32), X Li i12_isAt 3 [(0, vr a0), (1, vi a1), (2, vr a2), (3, vi a3), (4, vi a4)] [] M (K3 M a0 a1 a2 a3 a4)) : ∀ (M : MM) (a0 : Nat) (a1 : Int32) (a2 : Nat) (a3 : Int32) (a4 : Int32) (a5 : Int32) (s0 : Int32), X Li i12_isAt 75 [(0, vr a0), (1, vi a1), (2, vr a2), (3, vi a3), (4, vi a4), (5, vi a5)] [vi s0] M (f12_isAt_b75 K3 M a0 a1 a2 a3 a4 a5 s0) := by
  obtain ⟨d75, d77, d78, -⟩ := dd12_isAt_b75
  intro M a0 a1 a2 a3 a4 a5 s0
  unfold f12_isAt_b75
  refine X_istore (lv' := [(6, vi s0), (0, vr a0), (1, vi a1), (2, vr a2), (3, vi a3), (4, vi a4), (5, vi a5)]) d75 (by decide) rfl ?_
  refine X_iconst k_i_0 d77 ?_
  refine X_istore (lv' := [(7, vi (0 : Int32)), (6, vi s0), (0, vr a0), (1, vi a1), (2, vr a2), (3, vi a3), (4, vi a4), (5, vi a5)]) d78 (by decide) rfl ?_
  refine X_sub [2, 3, 4, 5, 6, 7, 1, 0] rfl ?_
  exact (T12_isAt_b80 hK3) M a0 a1 a2 a3 a4 a5 s0 (0 : Int32)

theorem dd12_isAt_b3 : AllD (ib i12_isAt) [(3, .iload 4, 2), (5, .aload_n 0, 1), (6, .getfield 7, 3), (9, .iconst 3, 1), (10, .iaload, 1), (11, .if_icmp .ge 133, 3), (14, .aload_n 0, 1), (15, .getfield 19, 3), (18, .bipush 6, 2), (20, .iload 4, 2), (22, .imul, 1), (23, .iconst 1, 1), (24, .iadd, 1), (25, .iaload, 1), (26, .istore 5, 2), (28, .aload_n 0, 1), (29, .getfield 19, 3), (32, .bipush 6, 2), (34, .iload 4, 2), (36, .imul, 1), (37, .iaload, 1), (38, .iload_n 1, 1), (39, .if_icmp .ne 35, 3), (42, .iload_n 3, 1), (43, .iload 5, 2), (45, .if_icmp .eq 25, 3), (48, .iload_n 3, 1), (49, .iload 5, 2), (51, .if_icmp .le 23, 3), (54, .aload_n 0, 1), (55, .getfield 19, 3), (58, .bipush 6, 2), (60, .iload 4, 2), (62, .imul, 1), (63, .iconst 2, 1), (64, .iadd, 1), (65, .iaload, 1), (66, .iconst 1, 1), (67, .if_icmp .ne 7, 3), (144, .iconst 0, 1), (145, .ireturn, 1)] := allD_of (by decide +kernel)
def f12_isAt_b3_body (rc : MM → Nat → Int32 → Nat → Int32 → Int32 → Option (Int32 × MM)) (M : MM) (a0 : Nat) (a1 : Int32) (a2 : Nat) (a3 : Int32) (a4 : Int32) : Option (Int32 × MM) :=
  aO M a0 12 <|
  aA M (mR M a0 1) 0 (3 : Int32) <|
  if (mI M (mR M a0 1) (3 : Int32).toNatClampNeg) ≤ a4 then
    some ((0 : Int32), M)
  else
    aO M a0 12 <|
    aA M (mR M a0 4) 0 (((6 : Int32) * a4) + (1 : Int32)) <|
    bW (mI M (mR M a0 4) (((6 : Int32) * a4) + (1 : Int32)).toNatClampNeg) fun v26 =>
    aO M a0 12 <|
    aA M (mR M a0 4) 0 ((6 : Int32) * a4) <|
    if (mI M (mR M a0 4) ((6 : Int32) * a4).toNatClampNeg) = a1 then
      if a3 = v26 then
        (f12_isAt_b70 (f12_isAt_b75 rc)) M a0 a1 a2 a3 a4 v26
      else
        if a3 ≤ v26 then
          (f12_isAt_b74 (f12_isAt_b75 rc)) M a0 a1 a2 a3 a4 v26
        else
          aO M a0 12 <|
          aA M (mR M a0 4) 0 (((6 : Int32) * a4) + (2 : Int32)) <|
          if (mI M (mR M a0 4) (((6 : Int32) * a4) + (2 : Int32)).toNatClampNeg) = (1 : Int32) then
            (f12_isAt_b70 (f12_isAt_b75 rc)) M a0 a1 a2 a3 a4 v26
          else
            (f12_isAt_b74 (f12_isAt_b75 rc)) M a0 a1 a2 a3 a4 v26
    else
      (f12_isAt_b74 (f12_isAt_b75 rc)) M a0 a1 a2 a3 a4 v26
def f12_isAt_b3 : MM → Nat → Int32 → Nat → Int32 → Int32 → Option (Int32 × MM) := LP6 (f12_isAt_b3_body) FU
set_option maxRecDepth 4000 in
theorem T12_isAt_b3 : ∀ (M : MM) (a0 : Nat) (a1 : Int32) (a2 : Nat) (a3 : Int32) (a4 : Int32), X Li i12_isAt 3 [(0, vr a0), (1, vi a1), (2, vr a2), (3, vi a3), (4, vi a4)] [] M (f12_isAt_b3 M a0 a1 a2 a3 a4) := by
  obtain ⟨d3, d5, d6, d9, d10, d11, d14, d15, d18, d20, d22, d23, d24, d25, d26, d28, d29, d32, d34, d36, d37, d38, d39, d42, d43, d45, d48, d49, d51, d54, d55, d58, d60, d62, d63, d64, d65, d66, d67, d144, d145, -⟩ := dd12_isAt_b3
  refine LP6_i (P := fun M a0 a1 a2 a3 a4 o => X Li i12_isAt 3 [(0, vr a0), (1, vi a1), (2, vr a2), (3, vi a3), (4, vi a4)] [] M o) (fun _ _ _ _ _ _ => X_none) (fun rc ih M a0 a1 a2 a3 a4 => ?_) FU
  unfold f12_isAt_b3_body
  refine X_iload 4 d3 rfl ?_
  refine X_aloadn 0 d5 rfl ?_
  refine X_getR d6 fg_x12_7 ?_
  refine X_iconst k_i_3 d9 ?_
  refine X_iaload d10 ?_
  refine X_icmp_ge (t := 144) d11 rfl (fun h11 => ?_) (fun h11 => ?_)
  · refine X_iconst k_i_0 d144 ?_
    exact X_zreturnc d145 rfl (by decide) rfl
  · refine X_aloadn 0 d14 rfl ?_
    refine X_getR d15 fg_x12_19 ?_
    refine X_bipush k_b_6 d18 ?_
    refine X_iload 4 d20 rfl ?_
    refine X_imul d22 ?_
    refine X_iconst k_i_1 d23 ?_
    refine X_iadd d24 ?_
    refine X_iaload d25 ?_
    refine X_bWi fun v26 _ => ?_
    refine X_istore (lv' := [(5, vi v26), (0, vr a0), (1, vi a1), (2, vr a2), (3, vi a3), (4, vi a4)]) d26 (by decide) rfl ?_
    refine X_aloadn 1 d28 rfl ?_
    refine X_getR d29 fg_x12_19 ?_
    refine X_bipush k_b_6 d32 ?_
    refine X_iload 5 d34 rfl ?_
    refine X_imul d36 ?_
    refine X_iaload d37 ?_
    refine X_iloadn 2 d38 rfl ?_
    refine X_icmp_ne (t := 74) d39 rfl (fun h39 => ?_) (fun h39 => ?_)
    · refine X_iloadn 4 d42 rfl ?_
      refine X_iload 0 d43 rfl ?_
      refine X_icmp_eq (t := 70) d45 rfl (fun h45 => ?_) (fun h45 => ?_)
      · refine X_sub [1, 2, 3, 4, 5, 0] rfl ?_
        exact (T12_isAt_b70 (T12_isAt_b75 ih)) M a0 a1 a2 a3 a4 v26
      · refine X_iloadn 4 d48 rfl ?_
        refine X_iload 0 d49 rfl ?_
        refine X_icmp_le (t := 74) d51 rfl (fun h51 => ?_) (fun h51 => ?_)
        · refine X_sub [1, 2, 3, 4, 5, 0] rfl ?_
          exact (T12_isAt_b74 (T12_isAt_b75 ih)) M a0 a1 a2 a3 a4 v26
        · refine X_aloadn 1 d54 rfl ?_
          refine X_getR d55 fg_x12_19 ?_
          refine X_bipush k_b_6 d58 ?_
          refine X_iload 5 d60 rfl ?_
          refine X_imul d62 ?_
          refine X_iconst k_i_2 d63 ?_
          refine X_iadd d64 ?_
          refine X_iaload d65 ?_
          refine X_iconst k_i_1 d66 ?_
          refine X_icmp_ne (t := 74) d67 rfl (fun h67 => ?_) (fun h67 => ?_)
          · refine X_sub [1, 2, 3, 4, 5, 0] rfl ?_
            exact (T12_isAt_b70 (T12_isAt_b75 ih)) M a0 a1 a2 a3 a4 v26
          · refine X_sub [1, 2, 3, 4, 5, 0] rfl ?_
            exact (T12_isAt_b74 (T12_isAt_b75 ih)) M a0 a1 a2 a3 a4 v26
    · refine X_sub [1, 2, 3, 4, 5, 0] rfl ?_
      exact (T12_isAt_b74 (T12_isAt_b75 ih)) M a0 a1 a2 a3 a4 v26

theorem dd12_isAt : AllD (ib i12_isAt) [(0, .iconst 0, 1), (1, .istore 4, 2)] := allD_of (by decide +kernel)
def f12_isAt (M : MM) (a0 : Nat) (a1 : Int32) (a2 : Nat) (a3 : Int32) : Option (Int32 × MM) :=
  f12_isAt_b3 M a0 a1 a2 a3 (0 : Int32)
set_option maxRecDepth 4000 in
theorem T12_isAt (M : MM) (a0 : Nat) (a1 : Int32) (a2 : Nat) (a3 : Int32) : ∀ q, f12_isAt M a0 a1 a2 a3 = some q → Run i12_isAt [vr a0, vi a1, vr a2, vi a3] M (Li q) := by
  obtain ⟨d0, d1, -⟩ := dd12_isAt
  refine Run_of_X (by decide) (Nat.le_of_ble_eq_true rfl) ?_
  show X Li i12_isAt 0 [(0, vr a0), (1, vi a1), (2, vr a2), (3, vi a3)] [] M _
  unfold f12_isAt
  refine X_iconst k_i_0 d0 ?_
  refine X_istore (lv' := [(4, vi (0 : Int32)), (0, vr a0), (1, vi a1), (2, vr a2), (3, vi a3)]) d1 (by decide) rfl ?_
  refine X_sub [1, 2, 3, 4, 0] rfl ?_
  exact T12_isAt_b3 M a0 a1 a2 a3 (0 : Int32)

theorem dd12_isFull_b17 : AllD (ib i12_isFull) [(17, .aload_n 0, 1), (18, .invokevirtual 181, 3), (21, .ifCond .ne 7, 3), (24, .iconst 1, 1), (25, .goto 4, 3), (28, .iconst 0, 1), (29, .ireturn, 1)] := allD_of (by decide +kernel)
def f12_isFull_b17 (M : MM) (a0 : Nat) : Option (Int32 × MM) :=
  aO M a0 12 <|
  cI (f12_isGood M a0) fun r18 M18 =>
  if r18 = 0 then
    some ((1 : Int32), M18)
  else
    some ((0 : Int32), M18)
set_option maxRecDepth 4000 in
theorem T12_isFull_b17 : ∀ (M : MM) (a0 : Nat), X Li i12_isFull 17 [(0, vr a0)] [] M (f12_isFull_b17 M a0) := by
  obtain ⟨d17, d18, d21, d24, d25, d28, d29, -⟩ := dd12_isFull_b17
  intro M a0
  unfold f12_isFull_b17
  refine X_aloadn 0 d17 rfl ?_
  refine X_cVi (as := []) d18 cv_x12_181 ⟨by decide, by decide⟩ rfl (Nat.le_of_ble_eq_true rfl) (T12_isGood M a0) (fun r18 M18 _ => ?_)
  refine X_if_ne (t := 28) d21 rfl (fun h21 => ?_) (fun h21 => ?_)
  · refine X_iconst k_i_1 d24 ?_
    refine X_goto (t := 29) d25 rfl ?_
    exact X_zreturnc d29 rfl (by decide) rfl
  · refine X_iconst k_i_0 d28 ?_
    exact X_zreturnc d29 rfl (by decide) rfl

theorem dd12_isFull : AllD (ib i12_isFull) [(0, .aload_n 0, 1), (1, .getfield 7, 3), (4, .iconst 4, 1), (5, .iload_n 1, 1), (6, .iadd, 1), (7, .iaload, 1), (8, .iload_n 2, 1), (9, .if_icmp .ne 8, 3), (12, .aload_n 0, 1), (13, .iconst 5, 1), (14, .invokevirtual 206, 3)] := allD_of (by decide +kernel)
def f12_isFull (M : MM) (a0 : Nat) (a1 : Int32) (a2 : Int32) : Option (Int32 × MM) :=
  aO M a0 12 <|
  aA M (mR M a0 1) 0 ((4 : Int32) + a1) <|
  if (mI M (mR M a0 1) ((4 : Int32) + a1).toNatClampNeg) = a2 then
    aO M a0 12 <|
    cV (f12_fails M a0 (5 : Int32)) fun M14 =>
    f12_isFull_b17 M14 a0
  else
    f12_isFull_b17 M a0
set_option maxRecDepth 4000 in
theorem T12_isFull (M : MM) (a0 : Nat) (a1 : Int32) (a2 : Int32) : ∀ q, f12_isFull M a0 a1 a2 = some q → Run i12_isFull [vr a0, vi a1, vi a2] M (Li q) := by
  obtain ⟨d0, d1, d4, d5, d6, d7, d8, d9, d12, d13, d14, -⟩ := dd12_isFull
  refine Run_of_X (by decide) (Nat.le_of_ble_eq_true rfl) ?_
  show X Li i12_isFull 0 [(0, vr a0), (1, vi a1), (2, vi a2)] [] M _
  unfold f12_isFull
  refine X_aloadn 0 d0 rfl ?_
  refine X_getR d1 fg_x12_7 ?_
  refine X_iconst k_i_4 d4 ?_
  refine X_iloadn 1 d5 rfl ?_
  refine X_iadd d6 ?_
  refine X_iaload d7 ?_
  refine X_iloadn 2 d8 rfl ?_
  refine X_icmp_ne (t := 17) d9 rfl (fun h9 => ?_) (fun h9 => ?_)
  · refine X_aloadn 0 d12 rfl ?_
    refine X_iconst k_i_5 d13 ?_
    refine X_cVv (as := [vi (5 : Int32)]) d14 cv_x12_206 ⟨by decide, by decide⟩ rfl (Nat.le_of_ble_eq_true rfl) (T12_fails M a0 (5 : Int32)) (fun M14 _ => ?_)
    refine X_sub [0] rfl ?_
    exact T12_isFull_b17 M14 a0
  · refine X_sub [0] rfl ?_
    exact T12_isFull_b17 M a0

theorem dd12_isHead_b21 : AllD (ib i12_isHead) [(21, .iconst 1, 1)] := allD_of (by decide +kernel)
def f12_isHead_b21 (K22 : MM → Nat → Int32 → Nat → Option (Int32 × MM)) (M : MM) (a0 : Nat) (s0 : Nat) : Option (Int32 × MM) :=
  K22 M a0 (1 : Int32) s0
set_option maxRecDepth 4000 in
theorem T12_isHead_b21 {K22 : MM → Nat → Int32 → Nat → Option (Int32 × MM)} (hK22 : ∀ (M : MM) (a0 : Nat) (s0 : Int32) (s1 : Nat), X Li i12_isHead 22 [(0, vr a0)] [vi s0, vr s1] M (K22 M a0 s0 s1)) : ∀ (M : MM) (a0 : Nat) (s0 : Nat), X Li i12_isHead 21 [(0, vr a0)] [vr s0] M (f12_isHead_b21 K22 M a0 s0) := by
  obtain ⟨d21, -⟩ := dd12_isHead_b21
  intro M a0 s0
  unfold f12_isHead_b21
  refine X_iconst k_i_1 d21 ?_
  exact hK22 M a0 (1 : Int32) s0

theorem dd12_isHead_b22 : AllD (ib i12_isHead) [(22, .putfield 113, 3), (25, .aload_n 0, 1), (26, .getfield 113, 3), (29, .ifCond .ne 7, 3), (32, .iconst 1, 1), (33, .goto 4, 3), (36, .iconst 0, 1), (37, .ireturn, 1)] := allD_of (by decide +kernel)
def f12_isHead_b22 (M : MM) (a0 : Nat) (s0 : Int32) (s1 : Nat) : Option (Int32 × MM) :=
  aO M s1 12 <|
  bM (sI M s1 0 s0) fun M22 =>
  aO M22 a0 12 <|
  if (mI M22 a0 0) = 0 then
    some ((1 : Int32), M22)
  else
    some ((0 : Int32), M22)
set_option maxRecDepth 4000 in
theorem T12_isHead_b22 : ∀ (M : MM) (a0 : Nat) (s0 : Int32) (s1 : Nat), X Li i12_isHead 22 [(0, vr a0)] [vi s0, vr s1] M (f12_isHead_b22 M a0 s0 s1) := by
  obtain ⟨d22, d25, d26, d29, d32, d33, d36, d37, -⟩ := dd12_isHead_b22
  intro M a0 s0 s1
  unfold f12_isHead_b22
  refine X_putI d22 fp_x12_113 ?_
  refine X_bM fun M22 _ => ?_
  refine X_aloadn 0 d25 rfl ?_
  refine X_getI d26 fg_x12_113 ?_
  refine X_if_ne (t := 36) d29 rfl (fun h29 => ?_) (fun h29 => ?_)
  · refine X_iconst k_i_1 d32 ?_
    refine X_goto (t := 37) d33 rfl ?_
    exact X_zreturnc d37 rfl (by decide) rfl
  · refine X_iconst k_i_0 d36 ?_
    exact X_zreturnc d37 rfl (by decide) rfl

theorem dd12_isHead : AllD (ib i12_isHead) [(0, .aload_n 0, 1), (1, .aload_n 0, 1), (2, .iload_n 1, 1), (3, .invokevirtual 350, 3), (6, .ifCond .eq 15, 3), (9, .aload_n 0, 1), (10, .iload_n 2, 1), (11, .invokevirtual 353, 3), (14, .ifCond .eq 7, 3), (17, .iconst 0, 1), (18, .goto 4, 3)] := allD_of (by decide +kernel)
def f12_isHead (M : MM) (a0 : Nat) (a1 : Int32) (a2 : Int32) : Option (Int32 × MM) :=
  aO M a0 12 <|
  cI (f12_isState M a0 a1) fun r3 M3 =>
  if r3 = 0 then
    (f12_isHead_b21 f12_isHead_b22) M3 a0 a0
  else
    aO M3 a0 12 <|
    cI (f12_isSign M3 a0 a2) fun r11 M11 =>
    if r11 = 0 then
      (f12_isHead_b21 f12_isHead_b22) M11 a0 a0
    else
      f12_isHead_b22 M11 a0 (0 : Int32) a0
set_option maxRecDepth 4000 in
theorem T12_isHead (M : MM) (a0 : Nat) (a1 : Int32) (a2 : Int32) : ∀ q, f12_isHead M a0 a1 a2 = some q → Run i12_isHead [vr a0, vi a1, vi a2] M (Li q) := by
  obtain ⟨d0, d1, d2, d3, d6, d9, d10, d11, d14, d17, d18, -⟩ := dd12_isHead
  refine Run_of_X (by decide) (Nat.le_of_ble_eq_true rfl) ?_
  show X Li i12_isHead 0 [(0, vr a0), (1, vi a1), (2, vi a2)] [] M _
  unfold f12_isHead
  refine X_aloadn 0 d0 rfl ?_
  refine X_aloadn 0 d1 rfl ?_
  refine X_iloadn 1 d2 rfl ?_
  refine X_cVi (as := [vi a1]) d3 cv_x12_350 ⟨by decide, by decide⟩ rfl (Nat.le_of_ble_eq_true rfl) (T12_isState M a0 a1) (fun r3 M3 _ => ?_)
  refine X_if_eq (t := 21) d6 rfl (fun h6 => ?_) (fun h6 => ?_)
  · refine X_sub [0] rfl ?_
    exact (T12_isHead_b21 T12_isHead_b22) M3 a0 a0
  · refine X_aloadn 0 d9 rfl ?_
    refine X_iloadn 2 d10 rfl ?_
    refine X_cVi (as := [vi a2]) d11 cv_x12_353 ⟨by decide, by decide⟩ rfl (Nat.le_of_ble_eq_true rfl) (T12_isSign M3 a0 a2) (fun r11 M11 _ => ?_)
    refine X_if_eq (t := 21) d14 rfl (fun h14 => ?_) (fun h14 => ?_)
    · refine X_sub [0] rfl ?_
      exact (T12_isHead_b21 T12_isHead_b22) M11 a0 a0
    · refine X_iconst k_i_0 d17 ?_
      refine X_goto (t := 22) d18 rfl ?_
      refine X_sub [0] rfl ?_
      exact T12_isHead_b22 M11 a0 (0 : Int32) a0

theorem dd12_isRule : AllD (ib i12_isRule) [(0, .iload_n 1, 1), (1, .iconst 0, 1), (2, .aload_n 0, 1), (3, .getfield 7, 3), (6, .iconst 2, 1), (7, .iaload, 1), (8, .iconst 1, 1), (9, .isub, 1), (10, .invokestatic 124, 3), (13, .ireturn, 1)] := allD_of (by decide +kernel)
def f12_isRule (M : MM) (a0 : Nat) (a1 : Int32) : Option (Int32 × MM) :=
  aO M a0 12 <|
  aA M (mR M a0 1) 0 (2 : Int32) <|
  cI (f12_in M a1 (0 : Int32) ((mI M (mR M a0 1) (2 : Int32).toNatClampNeg) - (1 : Int32))) fun r10 M10 =>
  gd (r10 = 0 ∨ r10 = 1) <|
  some (r10, M10)
set_option maxRecDepth 4000 in
theorem T12_isRule (M : MM) (a0 : Nat) (a1 : Int32) : ∀ q, f12_isRule M a0 a1 = some q → Run i12_isRule [vr a0, vi a1] M (Li q) := by
  obtain ⟨d0, d1, d2, d3, d6, d7, d8, d9, d10, d13, -⟩ := dd12_isRule
  refine Run_of_X (by decide) (Nat.le_of_ble_eq_true rfl) ?_
  show X Li i12_isRule 0 [(0, vr a0), (1, vi a1)] [] M _
  unfold f12_isRule
  refine X_iloadn 1 d0 rfl ?_
  refine X_iconst k_i_0 d1 ?_
  refine X_aloadn 0 d2 rfl ?_
  refine X_getR d3 fg_x12_7 ?_
  refine X_iconst k_i_2 d6 ?_
  refine X_iaload d7 ?_
  refine X_iconst k_i_1 d8 ?_
  refine X_isub d9 ?_
  refine X_cSi (as := [vi a1, vi (0 : Int32), vi ((mI M (mR M a0 1) (2 : Int32).toNatClampNeg) - (1 : Int32))]) d10 cs_x12_124 ⟨by decide, by decide⟩ rfl (Nat.le_of_ble_eq_true rfl) (T12_in M a1 (0 : Int32) ((mI M (mR M a0 1) (2 : Int32).toNatClampNeg) - (1 : Int32))) (fun r10 M10 _ => ?_)
  exact X_zreturn d13 rfl rfl

theorem dd12_isWay_b134 : AllD (ib i12_isWay) [(134, .iinc 7 1, 3), (137, .goto (-48), 3)] := allD_of (by decide +kernel)
def f12_isWay_b134 (K89 : MM → Nat → Int32 → Int32 → Int64 → Int32 → Option (Int32 × MM)) (M : MM) (a0 : Nat) (a3 : Int32) (a4 : Int32) (a5 : Int64) (a7 : Int32) : Option (Int32 × MM) :=
  K89 M a0 a3 a4 a5 (a7 + (1 : Int32))
set_option maxRecDepth 4000 in
theorem T12_isWay_b134 {K89 : MM → Nat → Int32 → Int32 → Int64 → Int32 → Option (Int32 × MM)} (hK89 : ∀ (M : MM) (a0 : Nat) (a3 : Int32) (a4 : Int32) (a5 : Int64) (a7 : Int32), X Li i12_isWay 89 [(0, vr a0), (3, vi a3), (4, vi a4), (5, vl a5), (7, vi a7)] [] M (K89 M a0 a3 a4 a5 a7)) : ∀ (M : MM) (a0 : Nat) (a3 : Int32) (a4 : Int32) (a5 : Int64) (a7 : Int32), X Li i12_isWay 134 [(0, vr a0), (3, vi a3), (4, vi a4), (5, vl a5), (7, vi a7)] [] M (f12_isWay_b134 K89 M a0 a3 a4 a5 a7) := by
  obtain ⟨d134, d137, -⟩ := dd12_isWay_b134
  intro M a0 a3 a4 a5 a7
  unfold f12_isWay_b134
  refine X_inc (lv' := [(7, vi (a7 + (1 : Int32))), (0, vr a0), (3, vi a3), (4, vi a4), (5, vl a5)]) 4 d134 k_i_1 rfl (by decide) rfl ?_
  refine X_goto (t := 89) d137 rfl ?_
  refine X_sub [1, 2, 3, 4, 0] rfl ?_
  exact hK89 M a0 a3 a4 a5 (a7 + (1 : Int32))

theorem dd12_isWay_b203 : AllD (ib i12_isWay) [(203, .iload 9, 2), (205, .ifCond .lt 29, 3), (208, .aload_n 0, 1), (209, .getfield 60, 3), (212, .iload 4, 2), (214, .aload_n 0, 1), (215, .iload 7, 2), (217, .iconst 4, 1), (218, .iload 9, 2), (220, .iadd, 1), (221, .invokevirtual 138, 3), (224, .iastore, 1), (225, .iinc 4 1, 3), (228, .iinc 9 (-1), 3), (231, .goto (-28), 3), (234, .aload_n 0, 1), (235, .aload_n 0, 1), (236, .getfield 50, 3), (239, .aload_n 0, 1), (240, .getfield 60, 3), (243, .iload 8, 2), (245, .iload 4, 2), (247, .invokevirtual 322, 3), (250, .goto (-189), 3)] := allD_of (by decide +kernel)
def f12_isWay_b203_body (K61 : MM → Nat → Int32 → Int32 → Int64 → Option (Int32 × MM)) (rc : MM → Nat → Int32 → Int32 → Int64 → Int32 → Int32 → Int32 → Option (Int32 × MM)) (M : MM) (a0 : Nat) (a3 : Int32) (a4 : Int32) (a5 : Int64) (a7 : Int32) (a8 : Int32) (a9 : Int32) : Option (Int32 × MM) :=
  if a9 < 0 then
    aO M a0 12 <|
    aO M a0 12 <|
    aO M a0 12 <|
    cV (f12_layAbove M a0 (mR M a0 28) (mR M a0 33) a8 a4) fun M247 =>
    K61 M247 a0 a3 a4 a5
  else
    aO M a0 12 <|
    aO M a0 12 <|
    cI (f12_ruleOf M a0 a7 ((4 : Int32) + a9)) fun r221 M221 =>
    aA M221 (mR M a0 33) 0 a4 <|
    bM (sI M221 (mR M a0 33) a4.toNatClampNeg r221) fun M224 =>
    rc M224 a0 a3 (a4 + (1 : Int32)) a5 a7 a8 (a9 + (-1 : Int32))
def f12_isWay_b203 (K61 : MM → Nat → Int32 → Int32 → Int64 → Option (Int32 × MM)) : MM → Nat → Int32 → Int32 → Int64 → Int32 → Int32 → Int32 → Option (Int32 × MM) := LP8 (f12_isWay_b203_body K61) FU
set_option maxRecDepth 4000 in
theorem T12_isWay_b203 {K61 : MM → Nat → Int32 → Int32 → Int64 → Option (Int32 × MM)} (hK61 : ∀ (M : MM) (a0 : Nat) (a3 : Int32) (a4 : Int32) (a5 : Int64), X Li i12_isWay 61 [(0, vr a0), (3, vi a3), (4, vi a4), (5, vl a5)] [] M (K61 M a0 a3 a4 a5)) : ∀ (M : MM) (a0 : Nat) (a3 : Int32) (a4 : Int32) (a5 : Int64) (a7 : Int32) (a8 : Int32) (a9 : Int32), X Li i12_isWay 203 [(0, vr a0), (3, vi a3), (4, vi a4), (5, vl a5), (7, vi a7), (8, vi a8), (9, vi a9)] [] M (f12_isWay_b203 K61 M a0 a3 a4 a5 a7 a8 a9) := by
  obtain ⟨d203, d205, d208, d209, d212, d214, d215, d217, d218, d220, d221, d224, d225, d228, d231, d234, d235, d236, d239, d240, d243, d245, d247, d250, -⟩ := dd12_isWay_b203
  refine LP8_i (P := fun M a0 a3 a4 a5 a7 a8 a9 o => X Li i12_isWay 203 [(0, vr a0), (3, vi a3), (4, vi a4), (5, vl a5), (7, vi a7), (8, vi a8), (9, vi a9)] [] M o) (fun _ _ _ _ _ _ _ _ => X_none) (fun rc ih M a0 a3 a4 a5 a7 a8 a9 => ?_) FU
  unfold f12_isWay_b203_body
  refine X_iload 6 d203 rfl ?_
  refine X_if_lt (t := 234) d205 rfl (fun h205 => ?_) (fun h205 => ?_)
  · refine X_aloadn 0 d234 rfl ?_
    refine X_aloadn 0 d235 rfl ?_
    refine X_getR d236 fg_x12_50 ?_
    refine X_aloadn 0 d239 rfl ?_
    refine X_getR d240 fg_x12_60 ?_
    refine X_iload 5 d243 rfl ?_
    refine X_iload 2 d245 rfl ?_
    refine X_cVv (as := [vr (mR M a0 28), vr (mR M a0 33), vi a8, vi a4]) d247 cv_x12_322 ⟨by decide, by decide⟩ rfl (Nat.le_of_ble_eq_true rfl) (T12_layAbove M a0 (mR M a0 28) (mR M a0 33) a8 a4) (fun M247 _ => ?_)
    refine X_goto (t := 61) d250 rfl ?_
    refine X_sub [0, 1, 2, 3] rfl ?_
    exact hK61 M247 a0 a3 a4 a5
  · refine X_aloadn 0 d208 rfl ?_
    refine X_getR d209 fg_x12_60 ?_
    refine X_iload 2 d212 rfl ?_
    refine X_aloadn 0 d214 rfl ?_
    refine X_iload 4 d215 rfl ?_
    refine X_iconst k_i_4 d217 ?_
    refine X_iload 6 d218 rfl ?_
    refine X_iadd d220 ?_
    refine X_cVi (as := [vi a7, vi ((4 : Int32) + a9)]) d221 cv_x12_138 ⟨by decide, by decide⟩ rfl (Nat.le_of_ble_eq_true rfl) (T12_ruleOf M a0 a7 ((4 : Int32) + a9)) (fun r221 M221 _ => ?_)
    refine X_iastore d224 ?_
    refine X_bM fun M224 _ => ?_
    refine X_inc (lv' := [(4, vi (a4 + (1 : Int32))), (0, vr a0), (3, vi a3), (5, vl a5), (7, vi a7), (8, vi a8), (9, vi a9)]) 2 d225 k_i_1 rfl (by decide) rfl ?_
    refine X_inc (lv' := [(9, vi (a9 + (-1 : Int32))), (4, vi (a4 + (1 : Int32))), (0, vr a0), (3, vi a3), (5, vl a5), (7, vi a7), (8, vi a8)]) 6 d228 k_i_m1 rfl (by decide) rfl ?_
    refine X_goto (t := 203) d231 rfl ?_
    refine X_sub [2, 3, 1, 4, 5, 6, 0] rfl ?_
    exact ih M224 a0 a3 (a4 + (1 : Int32)) a5 a7 a8 (a9 + (-1 : Int32))

theorem dd12_isWay_b89 : AllD (ib i12_isWay) [(89, .aload_n 0, 1), (90, .iload 7, 2), (92, .iload_n 3, 1), (93, .aload_n 0, 1), (94, .getfield 60, 3), (97, .iload 4, 2), (99, .iconst 1, 1), (100, .isub, 1), (101, .iaload, 1), (102, .invokevirtual 268, 3), (105, .ifCond .eq 29, 3), (108, .aload_n 0, 1), (109, .iload 7, 2), (111, .bipush 6, 2), (113, .invokevirtual 138, 3), (116, .i2l, 1), (117, .aload_n 0, 1), (118, .iload 7, 2), (120, .iload 4, 2), (122, .invokevirtual 338, 3), (125, .invokestatic 292, 3), (128, .lload 5, 2), (130, .lcmp, 1), (131, .ifCond .eq 9, 3), (140, .aload_n 0, 1), (141, .getfield 63, 3), (144, .aload_n 0, 1), (145, .getfield 333, 3), (148, .iload 7, 2), (150, .iastore, 1), (151, .aload_n 0, 1), (152, .dup, 1), (153, .getfield 333, 3), (156, .iconst 1, 1), (157, .iadd, 1), (158, .putfield 333, 3), (161, .lload 5, 2), (163, .aload_n 0, 1), (164, .iload 7, 2), (166, .bipush 6, 2), (168, .invokevirtual 138, 3), (171, .i2l, 1), (172, .lsub, 1), (173, .lstore 5, 2), (175, .aload_n 0, 1), (176, .iload 7, 2), (178, .iconst 2, 1), (179, .invokevirtual 138, 3), (182, .istore_n 3, 1), (183, .iinc 4 (-1), 3), (186, .iload 4, 2), (188, .iconst 1, 1), (189, .iadd, 1), (190, .istore 8, 2), (192, .aload_n 0, 1), (193, .iload 7, 2), (195, .iconst 3, 1), (196, .invokevirtual 138, 3), (199, .iconst 1, 1), (200, .isub, 1), (201, .istore 9, 2)] := allD_of (by decide +kernel)
def f12_isWay_b89_body (K61 : MM → Nat → Int32 → Int32 → Int64 → Option (Int32 × MM)) (rc : MM → Nat → Int32 → Int32 → Int64 → Int32 → Option (Int32 × MM)) (M : MM) (a0 : Nat) (a3 : Int32) (a4 : Int32) (a5 : Int64) (a7 : Int32) : Option (Int32 × MM) :=
  aO M a0 12 <|
  aA M (mR M a0 33) 0 (a4 - (1 : Int32)) <|
  aO M a0 12 <|
  cI (f12_isHeadOf M a0 a7 a3 (mI M (mR M a0 33) (a4 - (1 : Int32)).toNatClampNeg)) fun r102 M102 =>
  if r102 = 0 then
    (f12_isWay_b134 rc) M102 a0 a3 a4 a5 a7
  else
    aO M102 a0 12 <|
    cI (f12_ruleOf M102 a0 a7 (6 : Int32)) fun r113 M113 =>
    aO M113 a0 12 <|
    cJ (f12_behindRule M113 a0 a7 a4) fun r122 M122 =>
    cJ (f12_sum M122 (r113.toInt64) r122) fun r125 M125 =>
    if r125 = a5 then
      aO M125 a0 12 <|
      aO M125 a0 12 <|
      aA M125 (mR M125 a0 34) 0 (mI M125 a0 36) <|
      bM (sI M125 (mR M125 a0 34) (mI M125 a0 36).toNatClampNeg a7) fun M150 =>
      aO M150 a0 12 <|
      aO M150 a0 12 <|
      bM (sI M150 a0 36 ((mI M150 a0 36) + (1 : Int32))) fun M158 =>
      aO M158 a0 12 <|
      cI (f12_ruleOf M158 a0 a7 (6 : Int32)) fun r168 M168 =>
      bW (a5 - (r168.toInt64)) fun v173 =>
      aO M168 a0 12 <|
      cI (f12_ruleOf M168 a0 a7 (2 : Int32)) fun r179 M179 =>
      bW ((a4 + (-1 : Int32)) + (1 : Int32)) fun v190 =>
      aO M179 a0 12 <|
      cI (f12_ruleOf M179 a0 a7 (3 : Int32)) fun r196 M196 =>
      bW (r196 - (1 : Int32)) fun v201 =>
      (f12_isWay_b203 K61) M196 a0 r179 (a4 + (-1 : Int32)) v173 a7 v190 v201
    else
      (f12_isWay_b134 rc) M125 a0 a3 a4 a5 a7
def f12_isWay_b89 (K61 : MM → Nat → Int32 → Int32 → Int64 → Option (Int32 × MM)) : MM → Nat → Int32 → Int32 → Int64 → Int32 → Option (Int32 × MM) := LP6 (f12_isWay_b89_body K61) FU
set_option maxRecDepth 4000 in
theorem T12_isWay_b89 {K61 : MM → Nat → Int32 → Int32 → Int64 → Option (Int32 × MM)} (hK61 : ∀ (M : MM) (a0 : Nat) (a3 : Int32) (a4 : Int32) (a5 : Int64), X Li i12_isWay 61 [(0, vr a0), (3, vi a3), (4, vi a4), (5, vl a5)] [] M (K61 M a0 a3 a4 a5)) : ∀ (M : MM) (a0 : Nat) (a3 : Int32) (a4 : Int32) (a5 : Int64) (a7 : Int32), X Li i12_isWay 89 [(0, vr a0), (3, vi a3), (4, vi a4), (5, vl a5), (7, vi a7)] [] M (f12_isWay_b89 K61 M a0 a3 a4 a5 a7) := by
  obtain ⟨d89, d90, d92, d93, d94, d97, d99, d100, d101, d102, d105, d108, d109, d111, d113, d116, d117, d118, d120, d122, d125, d128, d130, d131, d140, d141, d144, d145, d148, d150, d151, d152, d153, d156, d157, d158, d161, d163, d164, d166, d168, d171, d172, d173, d175, d176, d178, d179, d182, d183, d186, d188, d189, d190, d192, d193, d195, d196, d199, d200, d201, -⟩ := dd12_isWay_b89
  refine LP6_i (P := fun M a0 a3 a4 a5 a7 o => X Li i12_isWay 89 [(0, vr a0), (3, vi a3), (4, vi a4), (5, vl a5), (7, vi a7)] [] M o) (fun _ _ _ _ _ _ => X_none) (fun rc ih M a0 a3 a4 a5 a7 => ?_) FU
  unfold f12_isWay_b89_body
  refine X_aloadn 0 d89 rfl ?_
  refine X_iload 4 d90 rfl ?_
  refine X_iloadn 1 d92 rfl ?_
  refine X_aloadn 0 d93 rfl ?_
  refine X_getR d94 fg_x12_60 ?_
  refine X_iload 2 d97 rfl ?_
  refine X_iconst k_i_1 d99 ?_
  refine X_isub d100 ?_
  refine X_iaload d101 ?_
  refine X_cVi (as := [vi a7, vi a3, vi (mI M (mR M a0 33) (a4 - (1 : Int32)).toNatClampNeg)]) d102 cv_x12_268 ⟨by decide, by decide⟩ rfl (Nat.le_of_ble_eq_true rfl) (T12_isHeadOf M a0 a7 a3 (mI M (mR M a0 33) (a4 - (1 : Int32)).toNatClampNeg)) (fun r102 M102 _ => ?_)
  refine X_if_eq (t := 134) d105 rfl (fun h105 => ?_) (fun h105 => ?_)
  · exact (T12_isWay_b134 ih) M102 a0 a3 a4 a5 a7
  · refine X_aloadn 0 d108 rfl ?_
    refine X_iload 4 d109 rfl ?_
    refine X_bipush k_b_6 d111 ?_
    refine X_cVi (as := [vi a7, vi (6 : Int32)]) d113 cv_x12_138 ⟨by decide, by decide⟩ rfl (Nat.le_of_ble_eq_true rfl) (T12_ruleOf M102 a0 a7 (6 : Int32)) (fun r113 M113 _ => ?_)
    refine X_i2l d116 ?_
    refine X_aloadn 0 d117 rfl ?_
    refine X_iload 4 d118 rfl ?_
    refine X_iload 2 d120 rfl ?_
    refine X_cVl (as := [vi a7, vi a4]) d122 cv_x12_338 ⟨by decide, by decide⟩ rfl (Nat.le_of_ble_eq_true rfl) (T12_behindRule M113 a0 a7 a4) (fun r122 M122 _ => ?_)
    refine X_cSl (as := [vl (r113.toInt64), vl r122]) d125 cs_x12_292 ⟨by decide, by decide⟩ rfl (Nat.le_of_ble_eq_true rfl) (T12_sum M122 (r113.toInt64) r122) (fun r125 M125 _ => ?_)
    refine X_lload 3 d128 rfl ?_
    refine X_lif_eq (t := 140) d130 d131 rfl (fun h130 => ?_) (fun h130 => ?_)
    · refine X_aloadn 0 d140 rfl ?_
      refine X_getR d141 fg_x12_63 ?_
      refine X_aloadn 0 d144 rfl ?_
      refine X_getI d145 fg_x12_333 ?_
      refine X_iload 4 d148 rfl ?_
      refine X_iastore d150 ?_
      refine X_bM fun M150 _ => ?_
      refine X_aloadn 0 d151 rfl ?_
      refine X_dupr d152 ?_
      refine X_getI d153 fg_x12_333 ?_
      refine X_iconst k_i_1 d156 ?_
      refine X_iadd d157 ?_
      refine X_putI d158 fp_x12_333 ?_
      refine X_bM fun M158 _ => ?_
      refine X_lload 3 d161 rfl ?_
      refine X_aloadn 0 d163 rfl ?_
      refine X_iload 4 d164 rfl ?_
      refine X_bipush k_b_6 d166 ?_
      refine X_cVi (as := [vi a7, vi (6 : Int32)]) d168 cv_x12_138 ⟨by decide, by decide⟩ rfl (Nat.le_of_ble_eq_true rfl) (T12_ruleOf M158 a0 a7 (6 : Int32)) (fun r168 M168 _ => ?_)
      refine X_i2l d171 ?_
      refine X_lsub d172 ?_
      refine X_bWl fun v173 _ => ?_
      refine X_lstore (lv' := [(5, vl v173), (0, vr a0), (3, vi a3), (4, vi a4), (7, vi a7)]) d173 (by decide) rfl ?_
      refine X_aloadn 1 d175 rfl ?_
      refine X_iload 4 d176 rfl ?_
      refine X_iconst k_i_2 d178 ?_
      refine X_cVi (as := [vi a7, vi (2 : Int32)]) d179 cv_x12_138 ⟨by decide, by decide⟩ rfl (Nat.le_of_ble_eq_true rfl) (T12_ruleOf M168 a0 a7 (2 : Int32)) (fun r179 M179 _ => ?_)
      refine X_istoren (lv' := [(3, vi r179), (5, vl v173), (0, vr a0), (4, vi a4), (7, vi a7)]) d182 (by decide) rfl ?_
      refine X_inc (lv' := [(4, vi (a4 + (-1 : Int32))), (3, vi r179), (5, vl v173), (0, vr a0), (7, vi a7)]) 3 d183 k_i_m1 rfl (by decide) rfl ?_
      refine X_iload 0 d186 rfl ?_
      refine X_iconst k_i_1 d188 ?_
      refine X_iadd d189 ?_
      refine X_bWi fun v190 _ => ?_
      refine X_istore (lv' := [(8, vi v190), (4, vi (a4 + (-1 : Int32))), (3, vi r179), (5, vl v173), (0, vr a0), (7, vi a7)]) d190 (by decide) rfl ?_
      refine X_aloadn 4 d192 rfl ?_
      refine X_iload 5 d193 rfl ?_
      refine X_iconst k_i_3 d195 ?_
      refine X_cVi (as := [vi a7, vi (3 : Int32)]) d196 cv_x12_138 ⟨by decide, by decide⟩ rfl (Nat.le_of_ble_eq_true rfl) (T12_ruleOf M179 a0 a7 (3 : Int32)) (fun r196 M196 _ => ?_)
      refine X_iconst k_i_1 d199 ?_
      refine X_isub d200 ?_
      refine X_bWi fun v201 _ => ?_
      refine X_istore (lv' := [(9, vi v201), (8, vi v190), (4, vi (a4 + (-1 : Int32))), (3, vi r179), (5, vl v173), (0, vr a0), (7, vi a7)]) d201 (by decide) rfl ?_
      refine X_sub [5, 3, 2, 4, 6, 1, 0] rfl ?_
      exact (T12_isWay_b203 hK61) M196 a0 r179 (a4 + (-1 : Int32)) v173 a7 v190 v201
    · exact (T12_isWay_b134 ih) M125 a0 a3 a4 a5 a7

theorem dd12_isWay_b61 : AllD (ib i12_isWay) [(61, .aload_n 0, 1), (62, .iload_n 3, 1), (63, .aload_n 0, 1), (64, .getfield 60, 3), (67, .iload 4, 2), (69, .invokevirtual 264, 3), (72, .ifCond .ne 181, 3), (75, .aload_n 0, 1), (76, .getfield 333, 3), (79, .bipush 100, 2), (81, .if_icmp .ne 5, 3), (84, .iconst 0, 1), (85, .ireturn, 1), (86, .iconst 0, 1), (87, .istore 7, 2), (253, .iconst 1, 1), (254, .ireturn, 1)] := allD_of (by decide +kernel)
def f12_isWay_b61_body (rc : MM → Nat → Int32 → Int32 → Int64 → Option (Int32 × MM)) (M : MM) (a0 : Nat) (a3 : Int32) (a4 : Int32) (a5 : Int64) : Option (Int32 × MM) :=
  aO M a0 12 <|
  aO M a0 12 <|
  cI (f12_isAt M a0 a3 (mR M a0 33) a4) fun r69 M69 =>
  if r69 = 0 then
    aO M69 a0 12 <|
    if (mI M69 a0 36) = (100 : Int32) then
      some ((0 : Int32), M69)
    else
      (f12_isWay_b89 rc) M69 a0 a3 a4 a5 (0 : Int32)
  else
    some ((1 : Int32), M69)
def f12_isWay_b61 : MM → Nat → Int32 → Int32 → Int64 → Option (Int32 × MM) := LP5 (f12_isWay_b61_body) FU
set_option maxRecDepth 4000 in
theorem T12_isWay_b61 : ∀ (M : MM) (a0 : Nat) (a3 : Int32) (a4 : Int32) (a5 : Int64), X Li i12_isWay 61 [(0, vr a0), (3, vi a3), (4, vi a4), (5, vl a5)] [] M (f12_isWay_b61 M a0 a3 a4 a5) := by
  obtain ⟨d61, d62, d63, d64, d67, d69, d72, d75, d76, d79, d81, d84, d85, d86, d87, d253, d254, -⟩ := dd12_isWay_b61
  refine LP5_i (P := fun M a0 a3 a4 a5 o => X Li i12_isWay 61 [(0, vr a0), (3, vi a3), (4, vi a4), (5, vl a5)] [] M o) (fun _ _ _ _ _ => X_none) (fun rc ih M a0 a3 a4 a5 => ?_) FU
  unfold f12_isWay_b61_body
  refine X_aloadn 0 d61 rfl ?_
  refine X_iloadn 1 d62 rfl ?_
  refine X_aloadn 0 d63 rfl ?_
  refine X_getR d64 fg_x12_60 ?_
  refine X_iload 2 d67 rfl ?_
  refine X_cVi (as := [vi a3, vr (mR M a0 33), vi a4]) d69 cv_x12_264 ⟨by decide, by decide⟩ rfl (Nat.le_of_ble_eq_true rfl) (T12_isAt M a0 a3 (mR M a0 33) a4) (fun r69 M69 _ => ?_)
  refine X_if_ne (t := 253) d72 rfl (fun h72 => ?_) (fun h72 => ?_)
  · refine X_aloadn 0 d75 rfl ?_
    refine X_getI d76 fg_x12_333 ?_
    refine X_bipush k_b_100 d79 ?_
    refine X_icmp_ne (t := 86) d81 rfl (fun h81 => ?_) (fun h81 => ?_)
    · refine X_iconst k_i_0 d84 ?_
      exact X_zreturnc d85 rfl (by decide) rfl
    · refine X_iconst k_i_0 d86 ?_
      refine X_istore (lv' := [(7, vi (0 : Int32)), (0, vr a0), (3, vi a3), (4, vi a4), (5, vl a5)]) d87 (by decide) rfl ?_
      refine X_sub [1, 2, 3, 4, 0] rfl ?_
      exact (T12_isWay_b89 ih) M69 a0 a3 a4 a5 (0 : Int32)
  · refine X_iconst k_i_1 d253 ?_
    exact X_zreturnc d254 rfl (by decide) rfl

theorem dd12_isWay_b29 : AllD (ib i12_isWay) [(29, .iload 5, 2), (31, .aload_n 0, 1), (32, .getfield 255, 3), (35, .if_icmp .ge 23, 3), (38, .aload_n 0, 1), (39, .getfield 60, 3), (42, .iload 5, 2), (44, .aload_n 0, 1), (45, .getfield 29, 3), (48, .iload 5, 2), (50, .iaload, 1), (51, .iastore, 1), (52, .iinc 5 1, 3), (55, .goto (-26), 3), (58, .lload_n 1, 1), (59, .lstore 5, 2)] := allD_of (by decide +kernel)
def f12_isWay_b29_body (rc : MM → Nat → Int64 → Int32 → Int32 → Int32 → Option (Int32 × MM)) (M : MM) (a0 : Nat) (a1 : Int64) (a3 : Int32) (a4 : Int32) (a5 : Int32) : Option (Int32 × MM) :=
  aO M a0 12 <|
  if (mI M a0 21) ≤ a5 then
    f12_isWay_b61 M a0 a3 a4 a1
  else
    aO M a0 12 <|
    aO M a0 12 <|
    aA M (mR M a0 17) 0 a5 <|
    aA M (mR M a0 33) 0 a5 <|
    bM (sI M (mR M a0 33) a5.toNatClampNeg (mI M (mR M a0 17) a5.toNatClampNeg)) fun M51 =>
    rc M51 a0 a1 a3 a4 (a5 + (1 : Int32))
def f12_isWay_b29 : MM → Nat → Int64 → Int32 → Int32 → Int32 → Option (Int32 × MM) := LP6 (f12_isWay_b29_body) FU
set_option maxRecDepth 4000 in
theorem T12_isWay_b29 : ∀ (M : MM) (a0 : Nat) (a1 : Int64) (a3 : Int32) (a4 : Int32) (a5 : Int32), X Li i12_isWay 29 [(0, vr a0), (1, vl a1), (3, vi a3), (4, vi a4), (5, vi a5)] [] M (f12_isWay_b29 M a0 a1 a3 a4 a5) := by
  obtain ⟨d29, d31, d32, d35, d38, d39, d42, d44, d45, d48, d50, d51, d52, d55, d58, d59, -⟩ := dd12_isWay_b29
  refine LP6_i (P := fun M a0 a1 a3 a4 a5 o => X Li i12_isWay 29 [(0, vr a0), (1, vl a1), (3, vi a3), (4, vi a4), (5, vi a5)] [] M o) (fun _ _ _ _ _ _ => X_none) (fun rc ih M a0 a1 a3 a4 a5 => ?_) FU
  unfold f12_isWay_b29_body
  refine X_iload 4 d29 rfl ?_
  refine X_aloadn 0 d31 rfl ?_
  refine X_getI d32 fg_x12_255 ?_
  refine X_icmp_ge (t := 58) d35 rfl (fun h35 => ?_) (fun h35 => ?_)
  · refine X_lloadn 1 d58 rfl ?_
    refine X_lstore (lv' := [(5, vl a1), (0, vr a0), (1, vl a1), (3, vi a3), (4, vi a4)]) d59 (by decide) rfl ?_
    refine X_sub [1, 3, 4, 0] rfl ?_
    exact T12_isWay_b61 M a0 a3 a4 a1
  · refine X_aloadn 0 d38 rfl ?_
    refine X_getR d39 fg_x12_60 ?_
    refine X_iload 4 d42 rfl ?_
    refine X_aloadn 0 d44 rfl ?_
    refine X_getR d45 fg_x12_29 ?_
    refine X_iload 4 d48 rfl ?_
    refine X_iaload d50 ?_
    refine X_iastore d51 ?_
    refine X_bM fun M51 _ => ?_
    refine X_inc (lv' := [(5, vi (a5 + (1 : Int32))), (0, vr a0), (1, vl a1), (3, vi a3), (4, vi a4)]) 4 d52 k_i_1 rfl (by decide) rfl ?_
    refine X_goto (t := 29) d55 rfl ?_
    refine X_sub [1, 2, 3, 4, 0] rfl ?_
    exact ih M51 a0 a1 a3 a4 (a5 + (1 : Int32))

theorem dd12_isWay : AllD (ib i12_isWay) [(0, .aload_n 0, 1), (1, .iconst 0, 1), (2, .putfield 333, 3), (5, .lload_n 1, 1), (6, .ldc2_w 336, 3), (9, .lcmp, 1), (10, .ifCond .le 5, 3), (13, .iconst 0, 1), (14, .ireturn, 1), (15, .aload_n 0, 1), (16, .getfield 252, 3), (19, .istore_n 3, 1), (20, .aload_n 0, 1), (21, .getfield 255, 3), (24, .istore 4, 2), (26, .iconst 0, 1), (27, .istore 5, 2)] := allD_of (by decide +kernel)
def f12_isWay (M : MM) (a0 : Nat) (a1 : Int64) : Option (Int32 × MM) :=
  aO M a0 12 <|
  bM (sI M a0 36 (0 : Int32)) fun M2 =>
  if a1 ≤ (9900 : Int64) then
    aO M2 a0 12 <|
    bW (mI M2 a0 20) fun v19 =>
    aO M2 a0 12 <|
    bW (mI M2 a0 21) fun v24 =>
    f12_isWay_b29 M2 a0 a1 v19 v24 (0 : Int32)
  else
    some ((0 : Int32), M2)
set_option maxRecDepth 4000 in
theorem T12_isWay (M : MM) (a0 : Nat) (a1 : Int64) : ∀ q, f12_isWay M a0 a1 = some q → Run i12_isWay [vr a0, vl a1] M (Li q) := by
  obtain ⟨d0, d1, d2, d5, d6, d9, d10, d13, d14, d15, d16, d19, d20, d21, d24, d26, d27, -⟩ := dd12_isWay
  refine Run_of_X (by decide) (Nat.le_of_ble_eq_true rfl) ?_
  show X Li i12_isWay 0 [(0, vr a0), (1, vl a1)] [] M _
  unfold f12_isWay
  refine X_aloadn 0 d0 rfl ?_
  refine X_iconst k_i_0 d1 ?_
  refine X_putI d2 fp_x12_333 ?_
  refine X_bM fun M2 _ => ?_
  refine X_lloadn 1 d5 rfl ?_
  refine X_ldc2 kc_x12_336 d6 ?_
  refine X_lif_le (t := 15) d9 d10 rfl (fun h9 => ?_) (fun h9 => ?_)
  · refine X_aloadn 0 d15 rfl ?_
    refine X_getI d16 fg_x12_252 ?_
    refine X_bWi fun v19 _ => ?_
    refine X_istoren (lv' := [(3, vi v19), (0, vr a0), (1, vl a1)]) d19 (by decide) rfl ?_
    refine X_aloadn 1 d20 rfl ?_
    refine X_getI d21 fg_x12_255 ?_
    refine X_bWi fun v24 _ => ?_
    refine X_istore (lv' := [(4, vi v24), (3, vi v19), (0, vr a0), (1, vl a1)]) d24 (by decide) rfl ?_
    refine X_iconst k_i_0 d26 ?_
    refine X_istore (lv' := [(5, vi (0 : Int32)), (4, vi v24), (3, vi v19), (0, vr a0), (1, vl a1)]) d27 (by decide) rfl ?_
    refine X_sub [3, 4, 2, 1, 0] rfl ?_
    exact T12_isWay_b29 M2 a0 a1 v19 v24 (0 : Int32)
  · refine X_iconst k_i_0 d13 ?_
    exact X_zreturnc d14 rfl (by decide) rfl

theorem dd12_lasts : AllD (ib i12_lasts) [(0, .aload_n 0, 1), (1, .iload_n 1, 1), (2, .iload_n 2, 1), (3, .invokevirtual 356, 3), (6, .ifCond .ne 5, 3), (9, .iconst 0, 1), (10, .ireturn, 1), (11, .aload_n 0, 1), (12, .invokevirtual 386, 3), (15, .aload_n 0, 1), (16, .iload_n 1, 1), (17, .iload_n 2, 1), (18, .invokevirtual 389, 3), (21, .ifCond .eq 7, 3), (24, .iconst 1, 1), (25, .goto 4, 3), (28, .iconst 0, 1), (29, .ireturn, 1)] := allD_of (by decide +kernel)
def f12_lasts (M : MM) (a0 : Nat) (a1 : Int32) (a2 : Int32) : Option (Int32 × MM) :=
  aO M a0 12 <|
  cI (f12_isHead M a0 a1 a2) fun r3 M3 =>
  if r3 = 0 then
    some ((0 : Int32), M3)
  else
    aO M3 a0 12 <|
    cV (f12_layBehind M3 a0) fun M12 =>
    aO M12 a0 12 <|
    cI (f12_goesOnAt M12 a0 a1 a2) fun r18 M18 =>
    if r18 = 0 then
      some ((0 : Int32), M18)
    else
      some ((1 : Int32), M18)
set_option maxRecDepth 4000 in
theorem T12_lasts (M : MM) (a0 : Nat) (a1 : Int32) (a2 : Int32) : ∀ q, f12_lasts M a0 a1 a2 = some q → Run i12_lasts [vr a0, vi a1, vi a2] M (Li q) := by
  obtain ⟨d0, d1, d2, d3, d6, d9, d10, d11, d12, d15, d16, d17, d18, d21, d24, d25, d28, d29, -⟩ := dd12_lasts
  refine Run_of_X (by decide) (Nat.le_of_ble_eq_true rfl) ?_
  show X Li i12_lasts 0 [(0, vr a0), (1, vi a1), (2, vi a2)] [] M _
  unfold f12_lasts
  refine X_aloadn 0 d0 rfl ?_
  refine X_iloadn 1 d1 rfl ?_
  refine X_iloadn 2 d2 rfl ?_
  refine X_cVi (as := [vi a1, vi a2]) d3 cv_x12_356 ⟨by decide, by decide⟩ rfl (Nat.le_of_ble_eq_true rfl) (T12_isHead M a0 a1 a2) (fun r3 M3 _ => ?_)
  refine X_if_ne (t := 11) d6 rfl (fun h6 => ?_) (fun h6 => ?_)
  · refine X_iconst k_i_0 d9 ?_
    exact X_ireturn d10 rfl rfl
  · refine X_aloadn 0 d11 rfl ?_
    refine X_cVv (as := []) d12 cv_x12_386 ⟨by decide, by decide⟩ rfl (Nat.le_of_ble_eq_true rfl) (T12_layBehind M3 a0) (fun M12 _ => ?_)
    refine X_aloadn 0 d15 rfl ?_
    refine X_iloadn 1 d16 rfl ?_
    refine X_iloadn 2 d17 rfl ?_
    refine X_cVi (as := [vi a1, vi a2]) d18 cv_x12_389 ⟨by decide, by decide⟩ rfl (Nat.le_of_ble_eq_true rfl) (T12_goesOnAt M12 a0 a1 a2) (fun r18 M18 _ => ?_)
    refine X_if_eq (t := 28) d21 rfl (fun h21 => ?_) (fun h21 => ?_)
    · refine X_iconst k_i_0 d28 ?_
      exact X_ireturn d29 rfl rfl
    · refine X_iconst k_i_1 d24 ?_
      refine X_goto (t := 29) d25 rfl ?_
      exact X_ireturn d29 rfl rfl

theorem dd12_layFar_b38 : AllD (ib i12_layFar) [(38, .iastore, 1), (39, .iinc 1 1, 3), (42, .goto (-40), 3)] := allD_of (by decide +kernel)
def f12_layFar_b38 (K2 : MM → Nat → Int32 → Option MM) (M : MM) (a0 : Nat) (a1 : Int32) (s0 : Int32) (s1 : Int32) (s2 : Nat) : Option MM :=
  aA M s2 0 s1 <|
  bM (sI M s2 s1.toNatClampNeg s0) fun M38 =>
  K2 M38 a0 (a1 + (1 : Int32))
set_option maxRecDepth 4000 in
theorem T12_layFar_b38 {K2 : MM → Nat → Int32 → Option MM} (hK2 : ∀ (M : MM) (a0 : Nat) (a1 : Int32), X Lv i12_layFar 2 [(0, vr a0), (1, vi a1)] [] M (K2 M a0 a1)) : ∀ (M : MM) (a0 : Nat) (a1 : Int32) (s0 : Int32) (s1 : Int32) (s2 : Nat), X Lv i12_layFar 38 [(0, vr a0), (1, vi a1)] [vi s0, vi s1, vr s2] M (f12_layFar_b38 K2 M a0 a1 s0 s1 s2) := by
  obtain ⟨d38, d39, d42, -⟩ := dd12_layFar_b38
  intro M a0 a1 s0 s1 s2
  unfold f12_layFar_b38
  refine X_iastore d38 ?_
  refine X_bM fun M38 _ => ?_
  refine X_inc (lv' := [(1, vi (a1 + (1 : Int32))), (0, vr a0)]) 1 d39 k_i_1 rfl (by decide) rfl ?_
  refine X_goto (t := 2) d42 rfl ?_
  refine X_sub [1, 0] rfl ?_
  exact hK2 M38 a0 (a1 + (1 : Int32))

theorem dd12_layFar_b127 : AllD (ib i12_layFar) [(127, .iinc 4 1, 3), (130, .goto (-62), 3)] := allD_of (by decide +kernel)
def f12_layFar_b127 (K68 : MM → Nat → Int32 → Int32 → Int32 → Int32 → Option MM) (M : MM) (a0 : Nat) (a1 : Int32) (a2 : Int32) (a3 : Int32) (a4 : Int32) : Option MM :=
  K68 M a0 a1 a2 a3 (a4 + (1 : Int32))
set_option maxRecDepth 4000 in
theorem T12_layFar_b127 {K68 : MM → Nat → Int32 → Int32 → Int32 → Int32 → Option MM} (hK68 : ∀ (M : MM) (a0 : Nat) (a1 : Int32) (a2 : Int32) (a3 : Int32) (a4 : Int32), X Lv i12_layFar 68 [(0, vr a0), (1, vi a1), (2, vi a2), (3, vi a3), (4, vi a4)] [] M (K68 M a0 a1 a2 a3 a4)) : ∀ (M : MM) (a0 : Nat) (a1 : Int32) (a2 : Int32) (a3 : Int32) (a4 : Int32), X Lv i12_layFar 127 [(0, vr a0), (1, vi a1), (2, vi a2), (3, vi a3), (4, vi a4)] [] M (f12_layFar_b127 K68 M a0 a1 a2 a3 a4) := by
  obtain ⟨d127, d130, -⟩ := dd12_layFar_b127
  intro M a0 a1 a2 a3 a4
  unfold f12_layFar_b127
  refine X_inc (lv' := [(4, vi (a4 + (1 : Int32))), (0, vr a0), (1, vi a1), (2, vi a2), (3, vi a3)]) 4 d127 k_i_1 rfl (by decide) rfl ?_
  refine X_goto (t := 68) d130 rfl ?_
  refine X_sub [1, 2, 3, 4, 0] rfl ?_
  exact hK68 M a0 a1 a2 a3 (a4 + (1 : Int32))

theorem dd12_layFar_b133 : AllD (ib i12_layFar) [(133, .iinc 3 1, 3), (136, .goto (-79), 3)] := allD_of (by decide +kernel)
def f12_layFar_b133 (K57 : MM → Nat → Int32 → Int32 → Int32 → Option MM) (M : MM) (a0 : Nat) (a1 : Int32) (a2 : Int32) (a3 : Int32) : Option MM :=
  K57 M a0 a1 a2 (a3 + (1 : Int32))
set_option maxRecDepth 4000 in
theorem T12_layFar_b133 {K57 : MM → Nat → Int32 → Int32 → Int32 → Option MM} (hK57 : ∀ (M : MM) (a0 : Nat) (a1 : Int32) (a2 : Int32) (a3 : Int32), X Lv i12_layFar 57 [(0, vr a0), (1, vi a1), (2, vi a2), (3, vi a3)] [] M (K57 M a0 a1 a2 a3)) : ∀ (M : MM) (a0 : Nat) (a1 : Int32) (a2 : Int32) (a3 : Int32), X Lv i12_layFar 133 [(0, vr a0), (1, vi a1), (2, vi a2), (3, vi a3)] [] M (f12_layFar_b133 K57 M a0 a1 a2 a3) := by
  obtain ⟨d133, d136, -⟩ := dd12_layFar_b133
  intro M a0 a1 a2 a3
  unfold f12_layFar_b133
  refine X_inc (lv' := [(3, vi (a3 + (1 : Int32))), (0, vr a0), (1, vi a1), (2, vi a2)]) 3 d133 k_i_1 rfl (by decide) rfl ?_
  refine X_goto (t := 57) d136 rfl ?_
  refine X_sub [1, 2, 3, 0] rfl ?_
  exact hK57 M a0 a1 a2 (a3 + (1 : Int32))

theorem dd12_layFar_b68 : AllD (ib i12_layFar) [(68, .iload 4, 2), (70, .aload_n 0, 1), (71, .invokevirtual 128, 3), (74, .if_icmp .ge 59, 3), (77, .aload_n 0, 1), (78, .getfield 110, 3), (81, .iload_n 3, 1), (82, .iaload, 1), (83, .ifCond .ge 50, 3), (86, .aload_n 0, 1), (87, .getfield 110, 3), (90, .aload_n 0, 1), (91, .aload_n 0, 1), (92, .getfield 92, 3), (95, .bipush 6, 2), (97, .aload_n 0, 1), (98, .getfield 101, 3), (101, .iload_n 3, 1), (102, .iaload, 1), (103, .imul, 1), (104, .iload 4, 2), (106, .iadd, 1), (107, .iaload, 1), (108, .invokevirtual 434, 3), (111, .iaload, 1), (112, .iload_n 2, 1), (113, .iconst 1, 1), (114, .isub, 1), (115, .if_icmp .ne 12, 3), (118, .aload_n 0, 1), (119, .getfield 110, 3), (122, .iload_n 3, 1), (123, .iload_n 2, 1), (124, .iastore, 1), (125, .iconst 1, 1), (126, .istore_n 1, 1)] := allD_of (by decide +kernel)
def f12_layFar_b68_body (K57 : MM → Nat → Int32 → Int32 → Int32 → Option MM) (rc : MM → Nat → Int32 → Int32 → Int32 → Int32 → Option MM) (M : MM) (a0 : Nat) (a1 : Int32) (a2 : Int32) (a3 : Int32) (a4 : Int32) : Option MM :=
  aO M a0 12 <|
  cI (f12_signs M a0) fun r71 M71 =>
  if r71 ≤ a4 then
    (f12_layFar_b133 K57) M71 a0 a1 a2 a3
  else
    aO M71 a0 12 <|
    aA M71 (mR M71 a0 54) 0 a3 <|
    if 0 ≤ (mI M71 (mR M71 a0 54) a3.toNatClampNeg) then
      (f12_layFar_b133 K57) M71 a0 a1 a2 a3
    else
      aO M71 a0 12 <|
      aO M71 a0 12 <|
      aO M71 a0 12 <|
      aA M71 (mR M71 a0 50) 0 a3 <|
      aA M71 (mR M71 a0 44) 0 (((6 : Int32) * (mI M71 (mR M71 a0 50) a3.toNatClampNeg)) + a4) <|
      aO M71 a0 12 <|
      cI (f12_nodeFor M71 a0 (mI M71 (mR M71 a0 44) (((6 : Int32) * (mI M71 (mR M71 a0 50) a3.toNatClampNeg)) + a4).toNatClampNeg)) fun r108 M108 =>
      aA M108 (mR M71 a0 54) 0 r108 <|
      if (mI M108 (mR M71 a0 54) r108.toNatClampNeg) = (a2 - (1 : Int32)) then
        aO M108 a0 12 <|
        aA M108 (mR M108 a0 54) 0 a3 <|
        bM (sI M108 (mR M108 a0 54) a3.toNatClampNeg a2) fun M124 =>
        (f12_layFar_b127 rc) M124 a0 (1 : Int32) a2 a3 a4
      else
        (f12_layFar_b127 rc) M108 a0 a1 a2 a3 a4
def f12_layFar_b68 (K57 : MM → Nat → Int32 → Int32 → Int32 → Option MM) : MM → Nat → Int32 → Int32 → Int32 → Int32 → Option MM := LP6 (f12_layFar_b68_body K57) FU
set_option maxRecDepth 4000 in
theorem T12_layFar_b68 {K57 : MM → Nat → Int32 → Int32 → Int32 → Option MM} (hK57 : ∀ (M : MM) (a0 : Nat) (a1 : Int32) (a2 : Int32) (a3 : Int32), X Lv i12_layFar 57 [(0, vr a0), (1, vi a1), (2, vi a2), (3, vi a3)] [] M (K57 M a0 a1 a2 a3)) : ∀ (M : MM) (a0 : Nat) (a1 : Int32) (a2 : Int32) (a3 : Int32) (a4 : Int32), X Lv i12_layFar 68 [(0, vr a0), (1, vi a1), (2, vi a2), (3, vi a3), (4, vi a4)] [] M (f12_layFar_b68 K57 M a0 a1 a2 a3 a4) := by
  obtain ⟨d68, d70, d71, d74, d77, d78, d81, d82, d83, d86, d87, d90, d91, d92, d95, d97, d98, d101, d102, d103, d104, d106, d107, d108, d111, d112, d113, d114, d115, d118, d119, d122, d123, d124, d125, d126, -⟩ := dd12_layFar_b68
  refine LP6_i (P := fun M a0 a1 a2 a3 a4 o => X Lv i12_layFar 68 [(0, vr a0), (1, vi a1), (2, vi a2), (3, vi a3), (4, vi a4)] [] M o) (fun _ _ _ _ _ _ => X_none) (fun rc ih M a0 a1 a2 a3 a4 => ?_) FU
  unfold f12_layFar_b68_body
  refine X_iload 4 d68 rfl ?_
  refine X_aloadn 0 d70 rfl ?_
  refine X_cVi (as := []) d71 cv_x12_128 ⟨by decide, by decide⟩ rfl (Nat.le_of_ble_eq_true rfl) (T12_signs M a0) (fun r71 M71 _ => ?_)
  refine X_icmp_ge (t := 133) d74 rfl (fun h74 => ?_) (fun h74 => ?_)
  · refine X_sub [0, 1, 2, 3] rfl ?_
    exact (T12_layFar_b133 hK57) M71 a0 a1 a2 a3
  · refine X_aloadn 0 d77 rfl ?_
    refine X_getR d78 fg_x12_110 ?_
    refine X_iloadn 3 d81 rfl ?_
    refine X_iaload d82 ?_
    refine X_if_ge (t := 133) d83 rfl (fun h83 => ?_) (fun h83 => ?_)
    · refine X_sub [0, 1, 2, 3] rfl ?_
      exact (T12_layFar_b133 hK57) M71 a0 a1 a2 a3
    · refine X_aloadn 0 d86 rfl ?_
      refine X_getR d87 fg_x12_110 ?_
      refine X_aloadn 0 d90 rfl ?_
      refine X_aloadn 0 d91 rfl ?_
      refine X_getR d92 fg_x12_92 ?_
      refine X_bipush k_b_6 d95 ?_
      refine X_aloadn 0 d97 rfl ?_
      refine X_getR d98 fg_x12_101 ?_
      refine X_iloadn 3 d101 rfl ?_
      refine X_iaload d102 ?_
      refine X_imul d103 ?_
      refine X_iload 4 d104 rfl ?_
      refine X_iadd d106 ?_
      refine X_iaload d107 ?_
      refine X_cVi (as := [vi (mI M71 (mR M71 a0 44) (((6 : Int32) * (mI M71 (mR M71 a0 50) a3.toNatClampNeg)) + a4).toNatClampNeg)]) d108 cv_x12_434 ⟨by decide, by decide⟩ rfl (Nat.le_of_ble_eq_true rfl) (T12_nodeFor M71 a0 (mI M71 (mR M71 a0 44) (((6 : Int32) * (mI M71 (mR M71 a0 50) a3.toNatClampNeg)) + a4).toNatClampNeg)) (fun r108 M108 _ => ?_)
      refine X_iaload d111 ?_
      refine X_iloadn 2 d112 rfl ?_
      refine X_iconst k_i_1 d113 ?_
      refine X_isub d114 ?_
      refine X_icmp_ne (t := 127) d115 rfl (fun h115 => ?_) (fun h115 => ?_)
      · refine X_aloadn 0 d118 rfl ?_
        refine X_getR d119 fg_x12_110 ?_
        refine X_iloadn 3 d122 rfl ?_
        refine X_iloadn 2 d123 rfl ?_
        refine X_iastore d124 ?_
        refine X_bM fun M124 _ => ?_
        refine X_iconst k_i_1 d125 ?_
        refine X_istoren (lv' := [(1, vi (1 : Int32)), (0, vr a0), (2, vi a2), (3, vi a3), (4, vi a4)]) d126 (by decide) rfl ?_
        refine X_sub [1, 0, 2, 3, 4] rfl ?_
        exact (T12_layFar_b127 ih) M124 a0 (1 : Int32) a2 a3 a4
      · exact (T12_layFar_b127 ih) M108 a0 a1 a2 a3 a4

theorem dd12_layFar_b57 : AllD (ib i12_layFar) [(57, .iload_n 3, 1), (58, .aload_n 0, 1), (59, .getfield 428, 3), (62, .if_icmp .ge 77, 3), (65, .iconst 0, 1), (66, .istore 4, 2), (139, .iinc 2 1, 3), (142, .goto (-93), 3)] := allD_of (by decide +kernel)
def f12_layFar_b57_body (K49 : MM → Nat → Int32 → Int32 → Option MM) (rc : MM → Nat → Int32 → Int32 → Int32 → Option MM) (M : MM) (a0 : Nat) (a1 : Int32) (a2 : Int32) (a3 : Int32) : Option MM :=
  aO M a0 12 <|
  if (mI M a0 52) ≤ a3 then
    K49 M a0 a1 (a2 + (1 : Int32))
  else
    (f12_layFar_b68 rc) M a0 a1 a2 a3 (0 : Int32)
def f12_layFar_b57 (K49 : MM → Nat → Int32 → Int32 → Option MM) : MM → Nat → Int32 → Int32 → Int32 → Option MM := LP5 (f12_layFar_b57_body K49) FU
set_option maxRecDepth 4000 in
theorem T12_layFar_b57 {K49 : MM → Nat → Int32 → Int32 → Option MM} (hK49 : ∀ (M : MM) (a0 : Nat) (a1 : Int32) (a2 : Int32), X Lv i12_layFar 49 [(0, vr a0), (1, vi a1), (2, vi a2)] [] M (K49 M a0 a1 a2)) : ∀ (M : MM) (a0 : Nat) (a1 : Int32) (a2 : Int32) (a3 : Int32), X Lv i12_layFar 57 [(0, vr a0), (1, vi a1), (2, vi a2), (3, vi a3)] [] M (f12_layFar_b57 K49 M a0 a1 a2 a3) := by
  obtain ⟨d57, d58, d59, d62, d65, d66, d139, d142, -⟩ := dd12_layFar_b57
  refine LP5_i (P := fun M a0 a1 a2 a3 o => X Lv i12_layFar 57 [(0, vr a0), (1, vi a1), (2, vi a2), (3, vi a3)] [] M o) (fun _ _ _ _ _ => X_none) (fun rc ih M a0 a1 a2 a3 => ?_) FU
  unfold f12_layFar_b57_body
  refine X_iloadn 3 d57 rfl ?_
  refine X_aloadn 0 d58 rfl ?_
  refine X_getI d59 fg_x12_428 ?_
  refine X_icmp_ge (t := 139) d62 rfl (fun h62 => ?_) (fun h62 => ?_)
  · refine X_inc (lv' := [(2, vi (a2 + (1 : Int32))), (0, vr a0), (1, vi a1), (3, vi a3)]) 2 d139 k_i_1 rfl (by decide) rfl ?_
    refine X_goto (t := 49) d142 rfl ?_
    refine X_sub [1, 2, 0] rfl ?_
    exact hK49 M a0 a1 (a2 + (1 : Int32))
  · refine X_iconst k_i_0 d65 ?_
    refine X_istore (lv' := [(4, vi (0 : Int32)), (0, vr a0), (1, vi a1), (2, vi a2), (3, vi a3)]) d66 (by decide) rfl ?_
    refine X_sub [1, 2, 3, 4, 0] rfl ?_
    exact (T12_layFar_b68 ih) M a0 a1 a2 a3 (0 : Int32)

theorem dd12_layFar_b49 : AllD (ib i12_layFar) [(49, .iload_n 1, 1), (50, .ifCond .eq 95, 3), (53, .iconst 0, 1), (54, .istore_n 1, 1), (55, .iconst 0, 1), (56, .istore_n 3, 1), (145, .return_, 1)] := allD_of (by decide +kernel)
def f12_layFar_b49_body (rc : MM → Nat → Int32 → Int32 → Option MM) (M : MM) (a0 : Nat) (a1 : Int32) (a2 : Int32) : Option MM :=
  if a1 = 0 then
    some M
  else
    (f12_layFar_b57 rc) M a0 (0 : Int32) a2 (0 : Int32)
def f12_layFar_b49 : MM → Nat → Int32 → Int32 → Option MM := LP4 (f12_layFar_b49_body) FU
set_option maxRecDepth 4000 in
theorem T12_layFar_b49 : ∀ (M : MM) (a0 : Nat) (a1 : Int32) (a2 : Int32), X Lv i12_layFar 49 [(0, vr a0), (1, vi a1), (2, vi a2)] [] M (f12_layFar_b49 M a0 a1 a2) := by
  obtain ⟨d49, d50, d53, d54, d55, d56, d145, -⟩ := dd12_layFar_b49
  refine LP4_i (P := fun M a0 a1 a2 o => X Lv i12_layFar 49 [(0, vr a0), (1, vi a1), (2, vi a2)] [] M o) (fun _ _ _ _ => X_none) (fun rc ih M a0 a1 a2 => ?_) FU
  unfold f12_layFar_b49_body
  refine X_iloadn 1 d49 rfl ?_
  refine X_if_eq (t := 145) d50 rfl (fun h50 => ?_) (fun h50 => ?_)
  · exact X_vreturn d145 rfl rfl
  · refine X_iconst k_i_0 d53 ?_
    refine X_istoren (lv' := [(1, vi (0 : Int32)), (0, vr a0), (2, vi a2)]) d54 (by decide) rfl ?_
    refine X_iconst k_i_0 d55 ?_
    refine X_istoren (lv' := [(3, vi (0 : Int32)), (1, vi (0 : Int32)), (0, vr a0), (2, vi a2)]) d56 (by decide) rfl ?_
    refine X_sub [2, 1, 3, 0] rfl ?_
    exact (T12_layFar_b57 ih) M a0 (0 : Int32) a2 (0 : Int32)

theorem dd12_layFar_b2 : AllD (ib i12_layFar) [(2, .iload_n 1, 1), (3, .aload_n 0, 1), (4, .getfield 428, 3), (7, .if_icmp .ge 38, 3), (10, .aload_n 0, 1), (11, .getfield 110, 3), (14, .iload_n 1, 1), (15, .aload_n 0, 1), (16, .aload_n 0, 1), (17, .getfield 88, 3), (20, .aload_n 0, 1), (21, .getfield 101, 3), (24, .iload_n 1, 1), (25, .iaload, 1), (26, .iaload, 1), (27, .invokevirtual 419, 3), (30, .ifCond .eq 7, 3), (33, .iconst 0, 1), (34, .goto 4, 3), (37, .iconst (-1), 1), (45, .iconst 1, 1), (46, .istore_n 1, 1), (47, .iconst 1, 1), (48, .istore_n 2, 1)] := allD_of (by decide +kernel)
def f12_layFar_b2_body (rc : MM → Nat → Int32 → Option MM) (M : MM) (a0 : Nat) (a1 : Int32) : Option MM :=
  aO M a0 12 <|
  if (mI M a0 52) ≤ a1 then
    f12_layFar_b49 M a0 (1 : Int32) (1 : Int32)
  else
    aO M a0 12 <|
    aO M a0 12 <|
    aO M a0 12 <|
    aA M (mR M a0 50) 0 a1 <|
    aA M (mR M a0 43) 0 (mI M (mR M a0 50) a1.toNatClampNeg) <|
    aO M a0 12 <|
    cI (f12_isGoodSet M a0 (mI M (mR M a0 43) (mI M (mR M a0 50) a1.toNatClampNeg).toNatClampNeg)) fun r27 M27 =>
    if r27 = 0 then
      (f12_layFar_b38 rc) M27 a0 a1 (-1 : Int32) a1 (mR M a0 54)
    else
      (f12_layFar_b38 rc) M27 a0 a1 (0 : Int32) a1 (mR M a0 54)
def f12_layFar_b2 : MM → Nat → Int32 → Option MM := LP3 (f12_layFar_b2_body) FU
set_option maxRecDepth 4000 in
theorem T12_layFar_b2 : ∀ (M : MM) (a0 : Nat) (a1 : Int32), X Lv i12_layFar 2 [(0, vr a0), (1, vi a1)] [] M (f12_layFar_b2 M a0 a1) := by
  obtain ⟨d2, d3, d4, d7, d10, d11, d14, d15, d16, d17, d20, d21, d24, d25, d26, d27, d30, d33, d34, d37, d45, d46, d47, d48, -⟩ := dd12_layFar_b2
  refine LP3_i (P := fun M a0 a1 o => X Lv i12_layFar 2 [(0, vr a0), (1, vi a1)] [] M o) (fun _ _ _ => X_none) (fun rc ih M a0 a1 => ?_) FU
  unfold f12_layFar_b2_body
  refine X_iloadn 1 d2 rfl ?_
  refine X_aloadn 0 d3 rfl ?_
  refine X_getI d4 fg_x12_428 ?_
  refine X_icmp_ge (t := 45) d7 rfl (fun h7 => ?_) (fun h7 => ?_)
  · refine X_iconst k_i_1 d45 ?_
    refine X_istoren (lv' := [(1, vi (1 : Int32)), (0, vr a0)]) d46 (by decide) rfl ?_
    refine X_iconst k_i_1 d47 ?_
    refine X_istoren (lv' := [(2, vi (1 : Int32)), (1, vi (1 : Int32)), (0, vr a0)]) d48 (by decide) rfl ?_
    refine X_sub [2, 1, 0] rfl ?_
    exact T12_layFar_b49 M a0 (1 : Int32) (1 : Int32)
  · refine X_aloadn 0 d10 rfl ?_
    refine X_getR d11 fg_x12_110 ?_
    refine X_iloadn 1 d14 rfl ?_
    refine X_aloadn 0 d15 rfl ?_
    refine X_aloadn 0 d16 rfl ?_
    refine X_getR d17 fg_x12_88 ?_
    refine X_aloadn 0 d20 rfl ?_
    refine X_getR d21 fg_x12_101 ?_
    refine X_iloadn 1 d24 rfl ?_
    refine X_iaload d25 ?_
    refine X_iaload d26 ?_
    refine X_cVi (as := [vi (mI M (mR M a0 43) (mI M (mR M a0 50) a1.toNatClampNeg).toNatClampNeg)]) d27 cv_x12_419 ⟨by decide, by decide⟩ rfl (Nat.le_of_ble_eq_true rfl) (T12_isGoodSet M a0 (mI M (mR M a0 43) (mI M (mR M a0 50) a1.toNatClampNeg).toNatClampNeg)) (fun r27 M27 _ => ?_)
    refine X_if_eq (t := 37) d30 rfl (fun h30 => ?_) (fun h30 => ?_)
    · refine X_iconst k_i_m1 d37 ?_
      exact (T12_layFar_b38 ih) M27 a0 a1 (-1 : Int32) a1 (mR M a0 54)
    · refine X_iconst k_i_0 d33 ?_
      refine X_goto (t := 38) d34 rfl ?_
      exact (T12_layFar_b38 ih) M27 a0 a1 (0 : Int32) a1 (mR M a0 54)

theorem dd12_layFar : AllD (ib i12_layFar) [(0, .iconst 0, 1), (1, .istore_n 1, 1)] := allD_of (by decide +kernel)
def f12_layFar (M : MM) (a0 : Nat) : Option MM :=
  f12_layFar_b2 M a0 (0 : Int32)
set_option maxRecDepth 4000 in
theorem T12_layFar (M : MM) (a0 : Nat) : ∀ q, f12_layFar M a0 = some q → Run i12_layFar [vr a0] M (Lv q) := by
  obtain ⟨d0, d1, -⟩ := dd12_layFar
  refine Run_of_X (by decide) (Nat.le_of_ble_eq_true rfl) ?_
  show X Lv i12_layFar 0 [(0, vr a0)] [] M _
  unfold f12_layFar
  refine X_iconst k_i_0 d0 ?_
  refine X_istoren (lv' := [(1, vi (0 : Int32)), (0, vr a0)]) d1 (by decide) rfl ?_
  refine X_sub [1, 0] rfl ?_
  exact T12_layFar_b2 M a0 (0 : Int32)

theorem dd12_popCell : AllD (ib i12_popCell) [(0, .iconst 5, 1), (1, .aload_n 0, 1), (2, .iload_n 1, 1), (3, .iload_n 2, 1), (4, .invokevirtual 368, 3), (7, .imul, 1), (8, .iload_n 3, 1), (9, .iadd, 1), (10, .ireturn, 1)] := allD_of (by decide +kernel)
def f12_popCell (M : MM) (a0 : Nat) (a1 : Int32) (a2 : Int32) (a3 : Int32) : Option (Int32 × MM) :=
  aO M a0 12 <|
  cI (f12_head M a0 a1 a2) fun r4 M4 =>
  some (((5 : Int32) * r4) + a3, M4)
set_option maxRecDepth 4000 in
theorem T12_popCell (M : MM) (a0 : Nat) (a1 : Int32) (a2 : Int32) (a3 : Int32) : ∀ q, f12_popCell M a0 a1 a2 a3 = some q → Run i12_popCell [vr a0, vi a1, vi a2, vi a3] M (Li q) := by
  obtain ⟨d0, d1, d2, d3, d4, d7, d8, d9, d10, -⟩ := dd12_popCell
  refine Run_of_X (by decide) (Nat.le_of_ble_eq_true rfl) ?_
  show X Li i12_popCell 0 [(0, vr a0), (1, vi a1), (2, vi a2), (3, vi a3)] [] M _
  unfold f12_popCell
  refine X_iconst k_i_5 d0 ?_
  refine X_aloadn 0 d1 rfl ?_
  refine X_iloadn 1 d2 rfl ?_
  refine X_iloadn 2 d3 rfl ?_
  refine X_cVi (as := [vi a1, vi a2]) d4 cv_x12_368 ⟨by decide, by decide⟩ rfl (Nat.le_of_ble_eq_true rfl) (T12_head M a0 a1 a2) (fun r4 M4 _ => ?_)
  refine X_imul d7 ?_
  refine X_iloadn 3 d8 rfl ?_
  refine X_iadd d9 ?_
  exact X_ireturn d10 rfl rfl

theorem dd12_longer : AllD (ib i12_longer) [(0, .lload_n 0, 1), (1, .lload_n 2, 1), (2, .lcmp, 1), (3, .ifCond .le 7, 3), (6, .lload_n 0, 1), (7, .goto 4, 3), (10, .lload_n 2, 1), (11, .lreturn, 1)] := allD_of (by decide +kernel)
def f12_longer (M : MM) (a0 : Int64) (a2 : Int64) : Option (Int64 × MM) :=
  if a0 ≤ a2 then
    some (a2, M)
  else
    some (a0, M)
set_option maxRecDepth 4000 in
theorem T12_longer (M : MM) (a0 : Int64) (a2 : Int64) : ∀ q, f12_longer M a0 a2 = some q → Run i12_longer [vl a0, vl a2] M (Ll q) := by
  obtain ⟨d0, d1, d2, d3, d6, d7, d10, d11, -⟩ := dd12_longer
  refine Run_of_X (by decide) (Nat.le_of_ble_eq_true rfl) ?_
  show X Ll i12_longer 0 [(0, vl a0), (2, vl a2)] [] M _
  unfold f12_longer
  refine X_lloadn 0 d0 rfl ?_
  refine X_lloadn 1 d1 rfl ?_
  refine X_lif_le (t := 10) d2 d3 rfl (fun h2 => ?_) (fun h2 => ?_)
  · refine X_lloadn 1 d10 rfl ?_
    exact X_lreturn d11 rfl rfl
  · refine X_lloadn 0 d6 rfl ?_
    refine X_goto (t := 11) d7 rfl ?_
    exact X_lreturn d11 rfl rfl

theorem dd12_mostBy_b272 : AllD (ib i12_mostBy) [(272, .lstore 6, 2), (274, .iinc 8 1, 3), (277, .goto (-211), 3)] := allD_of (by decide +kernel)
def f12_mostBy_b272 (K66 : MM → Nat → Int32 → Int32 → Int32 → Int32 → Int32 → Int64 → Int32 → Option MM) (M : MM) (a0 : Nat) (a1 : Int32) (a2 : Int32) (a3 : Int32) (a4 : Int32) (a5 : Int32) (a8 : Int32) (s0 : Int64) : Option MM :=
  K66 M a0 a1 a2 a3 a4 a5 s0 (a8 + (1 : Int32))
set_option maxRecDepth 4000 in
theorem T12_mostBy_b272 {K66 : MM → Nat → Int32 → Int32 → Int32 → Int32 → Int32 → Int64 → Int32 → Option MM} (hK66 : ∀ (M : MM) (a0 : Nat) (a1 : Int32) (a2 : Int32) (a3 : Int32) (a4 : Int32) (a5 : Int32) (a6 : Int64) (a8 : Int32), X Lv i12_mostBy 66 [(0, vr a0), (1, vi a1), (2, vi a2), (3, vi a3), (4, vi a4), (5, vi a5), (6, vl a6), (8, vi a8)] [] M (K66 M a0 a1 a2 a3 a4 a5 a6 a8)) : ∀ (M : MM) (a0 : Nat) (a1 : Int32) (a2 : Int32) (a3 : Int32) (a4 : Int32) (a5 : Int32) (a8 : Int32) (s0 : Int64), X Lv i12_mostBy 272 [(0, vr a0), (1, vi a1), (2, vi a2), (3, vi a3), (4, vi a4), (5, vi a5), (8, vi a8)] [vl s0] M (f12_mostBy_b272 K66 M a0 a1 a2 a3 a4 a5 a8 s0) := by
  obtain ⟨d272, d274, d277, -⟩ := dd12_mostBy_b272
  intro M a0 a1 a2 a3 a4 a5 a8 s0
  unfold f12_mostBy_b272
  refine X_lstore (lv' := [(6, vl s0), (0, vr a0), (1, vi a1), (2, vi a2), (3, vi a3), (4, vi a4), (5, vi a5), (8, vi a8)]) d272 (by decide) rfl ?_
  refine X_inc (lv' := [(8, vi (a8 + (1 : Int32))), (6, vl s0), (0, vr a0), (1, vi a1), (2, vi a2), (3, vi a3), (4, vi a4), (5, vi a5)]) 7 d274 k_i_1 rfl (by decide) rfl ?_
  refine X_goto (t := 66) d277 rfl ?_
  refine X_sub [2, 3, 4, 5, 6, 7, 1, 0] rfl ?_
  exact hK66 M a0 a1 a2 a3 a4 a5 s0 (a8 + (1 : Int32))

theorem dd12_mostBy_b191 : AllD (ib i12_mostBy) [(191, .aload_n 0, 1), (192, .getfield 82, 3), (195, .iconst 5, 1), (196, .iload_n 2, 1), (197, .imul, 1), (198, .iload 8, 2), (200, .iadd, 1), (201, .aload_n 0, 1), (202, .getfield 82, 3), (205, .iconst 5, 1), (206, .iload_n 2, 1), (207, .imul, 1), (208, .iload 8, 2), (210, .iadd, 1), (211, .laload, 1), (212, .lconst 1, 1), (213, .lload 9, 2), (215, .invokestatic 292, 3), (218, .invokestatic 401, 3), (221, .lastore, 1), (222, .iload 5, 2), (224, .iconst 2, 1), (225, .if_icmp .ne 45, 3), (228, .lload 6, 2), (230, .aload_n 0, 1), (231, .getfield 82, 3), (234, .aload_n 0, 1), (235, .iload_n 3, 1), (236, .iload 4, 2), (238, .iload 8, 2), (240, .invokevirtual 398, 3), (243, .laload, 1), (244, .aload_n 0, 1), (245, .getfield 79, 3), (248, .aload_n 0, 1), (249, .iload 8, 2), (251, .aload_n 0, 1), (252, .iload_n 1, 1), (253, .iconst 5, 1), (254, .invokevirtual 138, 3), (257, .invokevirtual 368, 3), (260, .laload, 1), (261, .invokestatic 292, 3), (264, .invokestatic 401, 3), (267, .goto 5, 3), (270, .lload 6, 2)] := allD_of (by decide +kernel)
def f12_mostBy_b191 (K66 : MM → Nat → Int32 → Int32 → Int32 → Int32 → Int32 → Int64 → Int32 → Option MM) (M : MM) (a0 : Nat) (a1 : Int32) (a2 : Int32) (a3 : Int32) (a4 : Int32) (a5 : Int32) (a6 : Int64) (a8 : Int32) (a9 : Int64) : Option MM :=
  aO M a0 12 <|
  aO M a0 12 <|
  aA M (mR M a0 41) 1 (((5 : Int32) * a2) + a8) <|
  cJ (f12_sum M (1 : Int64) a9) fun r215 M215 =>
  cJ (f12_longer M215 (mJ M (mR M a0 41) (((5 : Int32) * a2) + a8).toNatClampNeg) r215) fun r218 M218 =>
  aA M218 (mR M a0 41) 1 (((5 : Int32) * a2) + a8) <|
  bM (sJ M218 (mR M a0 41) (((5 : Int32) * a2) + a8).toNatClampNeg r218) fun M221 =>
  if a5 = (2 : Int32) then
    aO M221 a0 12 <|
    aO M221 a0 12 <|
    cI (f12_popCell M221 a0 a3 a4 a8) fun r240 M240 =>
    aA M240 (mR M221 a0 41) 1 r240 <|
    aO M240 a0 12 <|
    aO M240 a0 12 <|
    cI (f12_ruleOf M240 a0 a1 (5 : Int32)) fun r254 M254 =>
    aO M254 a0 12 <|
    cI (f12_head M254 a0 a8 r254) fun r257 M257 =>
    aA M257 (mR M240 a0 40) 1 r257 <|
    cJ (f12_sum M257 (mJ M240 (mR M221 a0 41) r240.toNatClampNeg) (mJ M257 (mR M240 a0 40) r257.toNatClampNeg)) fun r261 M261 =>
    cJ (f12_longer M261 a6 r261) fun r264 M264 =>
    (f12_mostBy_b272 K66) M264 a0 a1 a2 a3 a4 a5 a8 r264
  else
    (f12_mostBy_b272 K66) M221 a0 a1 a2 a3 a4 a5 a8 a6
set_option maxRecDepth 4000 in
theorem T12_mostBy_b191 {K66 : MM → Nat → Int32 → Int32 → Int32 → Int32 → Int32 → Int64 → Int32 → Option MM} (hK66 : ∀ (M : MM) (a0 : Nat) (a1 : Int32) (a2 : Int32) (a3 : Int32) (a4 : Int32) (a5 : Int32) (a6 : Int64) (a8 : Int32), X Lv i12_mostBy 66 [(0, vr a0), (1, vi a1), (2, vi a2), (3, vi a3), (4, vi a4), (5, vi a5), (6, vl a6), (8, vi a8)] [] M (K66 M a0 a1 a2 a3 a4 a5 a6 a8)) : ∀ (M : MM) (a0 : Nat) (a1 : Int32) (a2 : Int32) (a3 : Int32) (a4 : Int32) (a5 : Int32) (a6 : Int64) (a8 : Int32) (a9 : Int64), X Lv i12_mostBy 191 [(0, vr a0), (1, vi a1), (2, vi a2), (3, vi a3), (4, vi a4), (5, vi a5), (6, vl a6), (8, vi a8), (9, vl a9)] [] M (f12_mostBy_b191 K66 M a0 a1 a2 a3 a4 a5 a6 a8 a9) := by
  obtain ⟨d191, d192, d195, d196, d197, d198, d200, d201, d202, d205, d206, d207, d208, d210, d211, d212, d213, d215, d218, d221, d222, d224, d225, d228, d230, d231, d234, d235, d236, d238, d240, d243, d244, d245, d248, d249, d251, d252, d253, d254, d257, d260, d261, d264, d267, d270, -⟩ := dd12_mostBy_b191
  intro M a0 a1 a2 a3 a4 a5 a6 a8 a9
  unfold f12_mostBy_b191
  refine X_aloadn 0 d191 rfl ?_
  refine X_getR d192 fg_x12_82 ?_
  refine X_iconst k_i_5 d195 ?_
  refine X_iloadn 2 d196 rfl ?_
  refine X_imul d197 ?_
  refine X_iload 7 d198 rfl ?_
  refine X_iadd d200 ?_
  refine X_aloadn 0 d201 rfl ?_
  refine X_getR d202 fg_x12_82 ?_
  refine X_iconst k_i_5 d205 ?_
  refine X_iloadn 2 d206 rfl ?_
  refine X_imul d207 ?_
  refine X_iload 7 d208 rfl ?_
  refine X_iadd d210 ?_
  refine X_laload d211 ?_
  refine X_lconst k_l_1 d212 ?_
  refine X_lload 8 d213 rfl ?_
  refine X_cSl (as := [vl (1 : Int64), vl a9]) d215 cs_x12_292 ⟨by decide, by decide⟩ rfl (Nat.le_of_ble_eq_true rfl) (T12_sum M (1 : Int64) a9) (fun r215 M215 _ => ?_)
  refine X_cSl (as := [vl (mJ M (mR M a0 41) (((5 : Int32) * a2) + a8).toNatClampNeg), vl r215]) d218 cs_x12_401 ⟨by decide, by decide⟩ rfl (Nat.le_of_ble_eq_true rfl) (T12_longer M215 (mJ M (mR M a0 41) (((5 : Int32) * a2) + a8).toNatClampNeg) r215) (fun r218 M218 _ => ?_)
  refine X_lastore d221 ?_
  refine X_bM fun M221 _ => ?_
  refine X_iload 5 d222 rfl ?_
  refine X_iconst k_i_2 d224 ?_
  refine X_icmp_ne (t := 270) d225 rfl (fun h225 => ?_) (fun h225 => ?_)
  · refine X_lload 6 d228 rfl ?_
    refine X_aloadn 0 d230 rfl ?_
    refine X_getR d231 fg_x12_82 ?_
    refine X_aloadn 0 d234 rfl ?_
    refine X_iloadn 3 d235 rfl ?_
    refine X_iload 4 d236 rfl ?_
    refine X_iload 7 d238 rfl ?_
    refine X_cVi (as := [vi a3, vi a4, vi a8]) d240 cv_x12_398 ⟨by decide, by decide⟩ rfl (Nat.le_of_ble_eq_true rfl) (T12_popCell M221 a0 a3 a4 a8) (fun r240 M240 _ => ?_)
    refine X_laload d243 ?_
    refine X_aloadn 0 d244 rfl ?_
    refine X_getR d245 fg_x12_79 ?_
    refine X_aloadn 0 d248 rfl ?_
    refine X_iload 7 d249 rfl ?_
    refine X_aloadn 0 d251 rfl ?_
    refine X_iloadn 1 d252 rfl ?_
    refine X_iconst k_i_5 d253 ?_
    refine X_cVi (as := [vi a1, vi (5 : Int32)]) d254 cv_x12_138 ⟨by decide, by decide⟩ rfl (Nat.le_of_ble_eq_true rfl) (T12_ruleOf M240 a0 a1 (5 : Int32)) (fun r254 M254 _ => ?_)
    refine X_cVi (as := [vi a8, vi r254]) d257 cv_x12_368 ⟨by decide, by decide⟩ rfl (Nat.le_of_ble_eq_true rfl) (T12_head M254 a0 a8 r254) (fun r257 M257 _ => ?_)
    refine X_laload d260 ?_
    refine X_cSl (as := [vl (mJ M240 (mR M221 a0 41) r240.toNatClampNeg), vl (mJ M257 (mR M240 a0 40) r257.toNatClampNeg)]) d261 cs_x12_292 ⟨by decide, by decide⟩ rfl (Nat.le_of_ble_eq_true rfl) (T12_sum M257 (mJ M240 (mR M221 a0 41) r240.toNatClampNeg) (mJ M257 (mR M240 a0 40) r257.toNatClampNeg)) (fun r261 M261 _ => ?_)
    refine X_cSl (as := [vl a6, vl r261]) d264 cs_x12_401 ⟨by decide, by decide⟩ rfl (Nat.le_of_ble_eq_true rfl) (T12_longer M261 a6 r261) (fun r264 M264 _ => ?_)
    refine X_goto (t := 272) d267 rfl ?_
    refine X_sub [0, 1, 2, 3, 4, 5, 7] rfl ?_
    exact (T12_mostBy_b272 hK66) M264 a0 a1 a2 a3 a4 a5 a8 r264
  · refine X_lload 6 d270 rfl ?_
    refine X_sub [0, 1, 2, 3, 4, 5, 7] rfl ?_
    exact (T12_mostBy_b272 hK66) M221 a0 a1 a2 a3 a4 a5 a8 a6

theorem dd12_mostBy_b127 : AllD (ib i12_mostBy) [(127, .iload 11, 2), (129, .aload_n 0, 1), (130, .invokevirtual 120, 3), (133, .if_icmp .ge 58, 3), (136, .iload 5, 2), (138, .iconst 2, 1), (139, .if_icmp .ne 52, 3), (142, .lload 9, 2), (144, .aload_n 0, 1), (145, .getfield 82, 3), (148, .aload_n 0, 1), (149, .iload_n 3, 1), (150, .iload 4, 2), (152, .iload 11, 2), (154, .invokevirtual 398, 3), (157, .laload, 1), (158, .aload_n 0, 1), (159, .getfield 82, 3), (162, .aload_n 0, 1), (163, .iload 11, 2), (165, .aload_n 0, 1), (166, .iload_n 1, 1), (167, .iconst 5, 1), (168, .invokevirtual 138, 3), (171, .iload 8, 2), (173, .invokevirtual 398, 3), (176, .laload, 1), (177, .invokestatic 292, 3), (180, .invokestatic 401, 3), (183, .lstore 9, 2), (185, .iinc 11 1, 3), (188, .goto (-61), 3)] := allD_of (by decide +kernel)
def f12_mostBy_b127_body (K66 : MM → Nat → Int32 → Int32 → Int32 → Int32 → Int32 → Int64 → Int32 → Option MM) (rc : MM → Nat → Int32 → Int32 → Int32 → Int32 → Int32 → Int64 → Int32 → Int64 → Int32 → Option MM) (M : MM) (a0 : Nat) (a1 : Int32) (a2 : Int32) (a3 : Int32) (a4 : Int32) (a5 : Int32) (a6 : Int64) (a8 : Int32) (a9 : Int64) (a11 : Int32) : Option MM :=
  aO M a0 12 <|
  cI (f12_states M a0) fun r130 M130 =>
  if r130 ≤ a11 then
    (f12_mostBy_b191 K66) M130 a0 a1 a2 a3 a4 a5 a6 a8 a9
  else
    if a5 = (2 : Int32) then
      aO M130 a0 12 <|
      aO M130 a0 12 <|
      cI (f12_popCell M130 a0 a3 a4 a11) fun r154 M154 =>
      aA M154 (mR M130 a0 41) 1 r154 <|
      aO M154 a0 12 <|
      aO M154 a0 12 <|
      cI (f12_ruleOf M154 a0 a1 (5 : Int32)) fun r168 M168 =>
      aO M168 a0 12 <|
      cI (f12_popCell M168 a0 a11 r168 a8) fun r173 M173 =>
      aA M173 (mR M154 a0 41) 1 r173 <|
      cJ (f12_sum M173 (mJ M154 (mR M130 a0 41) r154.toNatClampNeg) (mJ M173 (mR M154 a0 41) r173.toNatClampNeg)) fun r177 M177 =>
      cJ (f12_longer M177 a9 r177) fun r180 M180 =>
      rc M180 a0 a1 a2 a3 a4 a5 a6 a8 r180 (a11 + (1 : Int32))
    else
      (f12_mostBy_b191 K66) M130 a0 a1 a2 a3 a4 a5 a6 a8 a9
def f12_mostBy_b127 (K66 : MM → Nat → Int32 → Int32 → Int32 → Int32 → Int32 → Int64 → Int32 → Option MM) : MM → Nat → Int32 → Int32 → Int32 → Int32 → Int32 → Int64 → Int32 → Int64 → Int32 → Option MM := LP11 (f12_mostBy_b127_body K66) FU
set_option maxRecDepth 4000 in
theorem T12_mostBy_b127 {K66 : MM → Nat → Int32 → Int32 → Int32 → Int32 → Int32 → Int64 → Int32 → Option MM} (hK66 : ∀ (M : MM) (a0 : Nat) (a1 : Int32) (a2 : Int32) (a3 : Int32) (a4 : Int32) (a5 : Int32) (a6 : Int64) (a8 : Int32), X Lv i12_mostBy 66 [(0, vr a0), (1, vi a1), (2, vi a2), (3, vi a3), (4, vi a4), (5, vi a5), (6, vl a6), (8, vi a8)] [] M (K66 M a0 a1 a2 a3 a4 a5 a6 a8)) : ∀ (M : MM) (a0 : Nat) (a1 : Int32) (a2 : Int32) (a3 : Int32) (a4 : Int32) (a5 : Int32) (a6 : Int64) (a8 : Int32) (a9 : Int64) (a11 : Int32), X Lv i12_mostBy 127 [(0, vr a0), (1, vi a1), (2, vi a2), (3, vi a3), (4, vi a4), (5, vi a5), (6, vl a6), (8, vi a8), (9, vl a9), (11, vi a11)] [] M (f12_mostBy_b127 K66 M a0 a1 a2 a3 a4 a5 a6 a8 a9 a11) := by
  obtain ⟨d127, d129, d130, d133, d136, d138, d139, d142, d144, d145, d148, d149, d150, d152, d154, d157, d158, d159, d162, d163, d165, d166, d167, d168, d171, d173, d176, d177, d180, d183, d185, d188, -⟩ := dd12_mostBy_b127
  refine LP11_i (P := fun M a0 a1 a2 a3 a4 a5 a6 a8 a9 a11 o => X Lv i12_mostBy 127 [(0, vr a0), (1, vi a1), (2, vi a2), (3, vi a3), (4, vi a4), (5, vi a5), (6, vl a6), (8, vi a8), (9, vl a9), (11, vi a11)] [] M o) (fun _ _ _ _ _ _ _ _ _ _ _ => X_none) (fun rc ih M a0 a1 a2 a3 a4 a5 a6 a8 a9 a11 => ?_) FU
  unfold f12_mostBy_b127_body
  refine X_iload 9 d127 rfl ?_
  refine X_aloadn 0 d129 rfl ?_
  refine X_cVi (as := []) d130 cv_x12_120 ⟨by decide, by decide⟩ rfl (Nat.le_of_ble_eq_true rfl) (T12_states M a0) (fun r130 M130 _ => ?_)
  refine X_icmp_ge (t := 191) d133 rfl (fun h133 => ?_) (fun h133 => ?_)
  · refine X_sub [0, 1, 2, 3, 4, 5, 6, 7, 8] rfl ?_
    exact (T12_mostBy_b191 hK66) M130 a0 a1 a2 a3 a4 a5 a6 a8 a9
  · refine X_iload 5 d136 rfl ?_
    refine X_iconst k_i_2 d138 ?_
    refine X_icmp_ne (t := 191) d139 rfl (fun h139 => ?_) (fun h139 => ?_)
    · refine X_lload 8 d142 rfl ?_
      refine X_aloadn 0 d144 rfl ?_
      refine X_getR d145 fg_x12_82 ?_
      refine X_aloadn 0 d148 rfl ?_
      refine X_iloadn 3 d149 rfl ?_
      refine X_iload 4 d150 rfl ?_
      refine X_iload 9 d152 rfl ?_
      refine X_cVi (as := [vi a3, vi a4, vi a11]) d154 cv_x12_398 ⟨by decide, by decide⟩ rfl (Nat.le_of_ble_eq_true rfl) (T12_popCell M130 a0 a3 a4 a11) (fun r154 M154 _ => ?_)
      refine X_laload d157 ?_
      refine X_aloadn 0 d158 rfl ?_
      refine X_getR d159 fg_x12_82 ?_
      refine X_aloadn 0 d162 rfl ?_
      refine X_iload 9 d163 rfl ?_
      refine X_aloadn 0 d165 rfl ?_
      refine X_iloadn 1 d166 rfl ?_
      refine X_iconst k_i_5 d167 ?_
      refine X_cVi (as := [vi a1, vi (5 : Int32)]) d168 cv_x12_138 ⟨by decide, by decide⟩ rfl (Nat.le_of_ble_eq_true rfl) (T12_ruleOf M154 a0 a1 (5 : Int32)) (fun r168 M168 _ => ?_)
      refine X_iload 7 d171 rfl ?_
      refine X_cVi (as := [vi a11, vi r168, vi a8]) d173 cv_x12_398 ⟨by decide, by decide⟩ rfl (Nat.le_of_ble_eq_true rfl) (T12_popCell M168 a0 a11 r168 a8) (fun r173 M173 _ => ?_)
      refine X_laload d176 ?_
      refine X_cSl (as := [vl (mJ M154 (mR M130 a0 41) r154.toNatClampNeg), vl (mJ M173 (mR M154 a0 41) r173.toNatClampNeg)]) d177 cs_x12_292 ⟨by decide, by decide⟩ rfl (Nat.le_of_ble_eq_true rfl) (T12_sum M173 (mJ M154 (mR M130 a0 41) r154.toNatClampNeg) (mJ M173 (mR M154 a0 41) r173.toNatClampNeg)) (fun r177 M177 _ => ?_)
      refine X_cSl (as := [vl a9, vl r177]) d180 cs_x12_401 ⟨by decide, by decide⟩ rfl (Nat.le_of_ble_eq_true rfl) (T12_longer M177 a9 r177) (fun r180 M180 _ => ?_)
      refine X_lstore (lv' := [(9, vl r180), (0, vr a0), (1, vi a1), (2, vi a2), (3, vi a3), (4, vi a4), (5, vi a5), (6, vl a6), (8, vi a8), (11, vi a11)]) d183 (by decide) rfl ?_
      refine X_inc (lv' := [(11, vi (a11 + (1 : Int32))), (9, vl r180), (0, vr a0), (1, vi a1), (2, vi a2), (3, vi a3), (4, vi a4), (5, vi a5), (6, vl a6), (8, vi a8)]) 9 d185 k_i_1 rfl (by decide) rfl ?_
      refine X_goto (t := 127) d188 rfl ?_
      refine X_sub [2, 3, 4, 5, 6, 7, 8, 9, 1, 0] rfl ?_
      exact ih M180 a0 a1 a2 a3 a4 a5 a6 a8 r180 (a11 + (1 : Int32))
    · refine X_sub [0, 1, 2, 3, 4, 5, 6, 7, 8] rfl ?_
      exact (T12_mostBy_b191 hK66) M130 a0 a1 a2 a3 a4 a5 a6 a8 a9

theorem dd12_mostBy_b122 : AllD (ib i12_mostBy) [(122, .lstore 9, 2), (124, .iconst 0, 1), (125, .istore 11, 2)] := allD_of (by decide +kernel)
def f12_mostBy_b122 (K66 : MM → Nat → Int32 → Int32 → Int32 → Int32 → Int32 → Int64 → Int32 → Option MM) (M : MM) (a0 : Nat) (a1 : Int32) (a2 : Int32) (a3 : Int32) (a4 : Int32) (a5 : Int32) (a6 : Int64) (a8 : Int32) (s0 : Int64) : Option MM :=
  (f12_mostBy_b127 K66) M a0 a1 a2 a3 a4 a5 a6 a8 s0 (0 : Int32)
set_option maxRecDepth 4000 in
theorem T12_mostBy_b122 {K66 : MM → Nat → Int32 → Int32 → Int32 → Int32 → Int32 → Int64 → Int32 → Option MM} (hK66 : ∀ (M : MM) (a0 : Nat) (a1 : Int32) (a2 : Int32) (a3 : Int32) (a4 : Int32) (a5 : Int32) (a6 : Int64) (a8 : Int32), X Lv i12_mostBy 66 [(0, vr a0), (1, vi a1), (2, vi a2), (3, vi a3), (4, vi a4), (5, vi a5), (6, vl a6), (8, vi a8)] [] M (K66 M a0 a1 a2 a3 a4 a5 a6 a8)) : ∀ (M : MM) (a0 : Nat) (a1 : Int32) (a2 : Int32) (a3 : Int32) (a4 : Int32) (a5 : Int32) (a6 : Int64) (a8 : Int32) (s0 : Int64), X Lv i12_mostBy 122 [(0, vr a0), (1, vi a1), (2, vi a2), (3, vi a3), (4, vi a4), (5, vi a5), (6, vl a6), (8, vi a8)] [vl s0] M (f12_mostBy_b122 K66 M a0 a1 a2 a3 a4 a5 a6 a8 s0) := by
  obtain ⟨d122, d124, d125, -⟩ := dd12_mostBy_b122
  intro M a0 a1 a2 a3 a4 a5 a6 a8 s0
  unfold f12_mostBy_b122
  refine X_lstore (lv' := [(9, vl s0), (0, vr a0), (1, vi a1), (2, vi a2), (3, vi a3), (4, vi a4), (5, vi a5), (6, vl a6), (8, vi a8)]) d122 (by decide) rfl ?_
  refine X_iconst k_i_0 d124 ?_
  refine X_istore (lv' := [(11, vi (0 : Int32)), (9, vl s0), (0, vr a0), (1, vi a1), (2, vi a2), (3, vi a3), (4, vi a4), (5, vi a5), (6, vl a6), (8, vi a8)]) d125 (by decide) rfl ?_
  refine X_sub [2, 3, 4, 5, 6, 7, 8, 9, 1, 0] rfl ?_
  exact (T12_mostBy_b127 hK66) M a0 a1 a2 a3 a4 a5 a6 a8 s0 (0 : Int32)

theorem dd12_mostBy_b66 : AllD (ib i12_mostBy) [(66, .iload 8, 2), (68, .aload_n 0, 1), (69, .invokevirtual 120, 3), (72, .if_icmp .ge 208, 3), (75, .iload 5, 2), (77, .ifCond .ne 19, 3), (80, .iload 8, 2), (82, .iload_n 3, 1), (83, .if_icmp .ne 7, 3), (86, .lconst 0, 1), (87, .goto 35, 3), (90, .ldc2_w 116, 3), (93, .goto 29, 3), (96, .iload 5, 2), (98, .iconst 1, 1), (99, .if_icmp .ne 20, 3), (102, .aload_n 0, 1), (103, .getfield 82, 3), (106, .aload_n 0, 1), (107, .iload_n 3, 1), (108, .iload 4, 2), (110, .iload 8, 2), (112, .invokevirtual 398, 3), (115, .laload, 1), (116, .goto 6, 3), (119, .ldc2_w 116, 3), (280, .aload_n 0, 1), (281, .getfield 79, 3), (284, .iload_n 2, 1), (285, .aload_n 0, 1), (286, .getfield 79, 3), (289, .iload_n 2, 1), (290, .laload, 1), (291, .lconst 1, 1), (292, .lload 6, 2), (294, .invokestatic 292, 3), (297, .invokestatic 401, 3), (300, .lastore, 1), (301, .return_, 1)] := allD_of (by decide +kernel)
def f12_mostBy_b66_body (rc : MM → Nat → Int32 → Int32 → Int32 → Int32 → Int32 → Int64 → Int32 → Option MM) (M : MM) (a0 : Nat) (a1 : Int32) (a2 : Int32) (a3 : Int32) (a4 : Int32) (a5 : Int32) (a6 : Int64) (a8 : Int32) : Option MM :=
  aO M a0 12 <|
  cI (f12_states M a0) fun r69 M69 =>
  if r69 ≤ a8 then
    aO M69 a0 12 <|
    aO M69 a0 12 <|
    aA M69 (mR M69 a0 40) 1 a2 <|
    cJ (f12_sum M69 (1 : Int64) a6) fun r294 M294 =>
    cJ (f12_longer M294 (mJ M69 (mR M69 a0 40) a2.toNatClampNeg) r294) fun r297 M297 =>
    aA M297 (mR M69 a0 40) 1 a2 <|
    bM (sJ M297 (mR M69 a0 40) a2.toNatClampNeg r297) fun M300 =>
    some M300
  else
    if a5 = 0 then
      if a8 = a3 then
        (f12_mostBy_b122 rc) M69 a0 a1 a2 a3 a4 a5 a6 a8 (0 : Int64)
      else
        (f12_mostBy_b122 rc) M69 a0 a1 a2 a3 a4 a5 a6 a8 (-1 : Int64)
    else
      if a5 = (1 : Int32) then
        aO M69 a0 12 <|
        aO M69 a0 12 <|
        cI (f12_popCell M69 a0 a3 a4 a8) fun r112 M112 =>
        aA M112 (mR M69 a0 41) 1 r112 <|
        (f12_mostBy_b122 rc) M112 a0 a1 a2 a3 a4 a5 a6 a8 (mJ M112 (mR M69 a0 41) r112.toNatClampNeg)
      else
        (f12_mostBy_b122 rc) M69 a0 a1 a2 a3 a4 a5 a6 a8 (-1 : Int64)
def f12_mostBy_b66 : MM → Nat → Int32 → Int32 → Int32 → Int32 → Int32 → Int64 → Int32 → Option MM := LP9 (f12_mostBy_b66_body) FU
set_option maxRecDepth 4000 in
theorem T12_mostBy_b66 : ∀ (M : MM) (a0 : Nat) (a1 : Int32) (a2 : Int32) (a3 : Int32) (a4 : Int32) (a5 : Int32) (a6 : Int64) (a8 : Int32), X Lv i12_mostBy 66 [(0, vr a0), (1, vi a1), (2, vi a2), (3, vi a3), (4, vi a4), (5, vi a5), (6, vl a6), (8, vi a8)] [] M (f12_mostBy_b66 M a0 a1 a2 a3 a4 a5 a6 a8) := by
  obtain ⟨d66, d68, d69, d72, d75, d77, d80, d82, d83, d86, d87, d90, d93, d96, d98, d99, d102, d103, d106, d107, d108, d110, d112, d115, d116, d119, d280, d281, d284, d285, d286, d289, d290, d291, d292, d294, d297, d300, d301, -⟩ := dd12_mostBy_b66
  refine LP9_i (P := fun M a0 a1 a2 a3 a4 a5 a6 a8 o => X Lv i12_mostBy 66 [(0, vr a0), (1, vi a1), (2, vi a2), (3, vi a3), (4, vi a4), (5, vi a5), (6, vl a6), (8, vi a8)] [] M o) (fun _ _ _ _ _ _ _ _ _ => X_none) (fun rc ih M a0 a1 a2 a3 a4 a5 a6 a8 => ?_) FU
  unfold f12_mostBy_b66_body
  refine X_iload 7 d66 rfl ?_
  refine X_aloadn 0 d68 rfl ?_
  refine X_cVi (as := []) d69 cv_x12_120 ⟨by decide, by decide⟩ rfl (Nat.le_of_ble_eq_true rfl) (T12_states M a0) (fun r69 M69 _ => ?_)
  refine X_icmp_ge (t := 280) d72 rfl (fun h72 => ?_) (fun h72 => ?_)
  · refine X_aloadn 0 d280 rfl ?_
    refine X_getR d281 fg_x12_79 ?_
    refine X_iloadn 2 d284 rfl ?_
    refine X_aloadn 0 d285 rfl ?_
    refine X_getR d286 fg_x12_79 ?_
    refine X_iloadn 2 d289 rfl ?_
    refine X_laload d290 ?_
    refine X_lconst k_l_1 d291 ?_
    refine X_lload 6 d292 rfl ?_
    refine X_cSl (as := [vl (1 : Int64), vl a6]) d294 cs_x12_292 ⟨by decide, by decide⟩ rfl (Nat.le_of_ble_eq_true rfl) (T12_sum M69 (1 : Int64) a6) (fun r294 M294 _ => ?_)
    refine X_cSl (as := [vl (mJ M69 (mR M69 a0 40) a2.toNatClampNeg), vl r294]) d297 cs_x12_401 ⟨by decide, by decide⟩ rfl (Nat.le_of_ble_eq_true rfl) (T12_longer M294 (mJ M69 (mR M69 a0 40) a2.toNatClampNeg) r294) (fun r297 M297 _ => ?_)
    refine X_lastore d300 ?_
    refine X_bM fun M300 _ => ?_
    exact X_vreturn d301 rfl rfl
  · refine X_iload 5 d75 rfl ?_
    refine X_if_ne (t := 96) d77 rfl (fun h77 => ?_) (fun h77 => ?_)
    · refine X_iload 7 d80 rfl ?_
      refine X_iloadn 3 d82 rfl ?_
      refine X_icmp_ne (t := 90) d83 rfl (fun h83 => ?_) (fun h83 => ?_)
      · refine X_lconst k_l_0 d86 ?_
        refine X_goto (t := 122) d87 rfl ?_
        exact (T12_mostBy_b122 ih) M69 a0 a1 a2 a3 a4 a5 a6 a8 (0 : Int64)
      · refine X_ldc2 kc_x12_116 d90 ?_
        refine X_goto (t := 122) d93 rfl ?_
        exact (T12_mostBy_b122 ih) M69 a0 a1 a2 a3 a4 a5 a6 a8 (-1 : Int64)
    · refine X_iload 5 d96 rfl ?_
      refine X_iconst k_i_1 d98 ?_
      refine X_icmp_ne (t := 119) d99 rfl (fun h99 => ?_) (fun h99 => ?_)
      · refine X_aloadn 0 d102 rfl ?_
        refine X_getR d103 fg_x12_82 ?_
        refine X_aloadn 0 d106 rfl ?_
        refine X_iloadn 3 d107 rfl ?_
        refine X_iload 4 d108 rfl ?_
        refine X_iload 7 d110 rfl ?_
        refine X_cVi (as := [vi a3, vi a4, vi a8]) d112 cv_x12_398 ⟨by decide, by decide⟩ rfl (Nat.le_of_ble_eq_true rfl) (T12_popCell M69 a0 a3 a4 a8) (fun r112 M112 _ => ?_)
        refine X_laload d115 ?_
        refine X_goto (t := 122) d116 rfl ?_
        exact (T12_mostBy_b122 ih) M112 a0 a1 a2 a3 a4 a5 a6 a8 (mJ M112 (mR M69 a0 41) r112.toNatClampNeg)
      · refine X_ldc2 kc_x12_116 d119 ?_
        exact (T12_mostBy_b122 ih) M69 a0 a1 a2 a3 a4 a5 a6 a8 (-1 : Int64)

theorem dd12_mostBy_b61 : AllD (ib i12_mostBy) [(61, .lstore 6, 2), (63, .iconst 0, 1), (64, .istore 8, 2)] := allD_of (by decide +kernel)
def f12_mostBy_b61 (M : MM) (a0 : Nat) (a1 : Int32) (a2 : Int32) (a3 : Int32) (a4 : Int32) (a5 : Int32) (s0 : Int64) : Option MM :=
  f12_mostBy_b66 M a0 a1 a2 a3 a4 a5 s0 (0 : Int32)
set_option maxRecDepth 4000 in
theorem T12_mostBy_b61 : ∀ (M : MM) (a0 : Nat) (a1 : Int32) (a2 : Int32) (a3 : Int32) (a4 : Int32) (a5 : Int32) (s0 : Int64), X Lv i12_mostBy 61 [(0, vr a0), (1, vi a1), (2, vi a2), (3, vi a3), (4, vi a4), (5, vi a5)] [vl s0] M (f12_mostBy_b61 M a0 a1 a2 a3 a4 a5 s0) := by
  obtain ⟨d61, d63, d64, -⟩ := dd12_mostBy_b61
  intro M a0 a1 a2 a3 a4 a5 s0
  unfold f12_mostBy_b61
  refine X_lstore (lv' := [(6, vl s0), (0, vr a0), (1, vi a1), (2, vi a2), (3, vi a3), (4, vi a4), (5, vi a5)]) d61 (by decide) rfl ?_
  refine X_iconst k_i_0 d63 ?_
  refine X_istore (lv' := [(8, vi (0 : Int32)), (6, vl s0), (0, vr a0), (1, vi a1), (2, vi a2), (3, vi a3), (4, vi a4), (5, vi a5)]) d64 (by decide) rfl ?_
  refine X_sub [2, 3, 4, 5, 6, 7, 1, 0] rfl ?_
  exact T12_mostBy_b66 M a0 a1 a2 a3 a4 a5 s0 (0 : Int32)

theorem dd12_mostBy : AllD (ib i12_mostBy) [(0, .aload_n 0, 1), (1, .aload_n 0, 1), (2, .iload_n 1, 1), (3, .iconst 0, 1), (4, .invokevirtual 138, 3), (7, .aload_n 0, 1), (8, .iload_n 1, 1), (9, .iconst 1, 1), (10, .invokevirtual 138, 3), (13, .invokevirtual 368, 3), (16, .istore_n 2, 1), (17, .aload_n 0, 1), (18, .iload_n 1, 1), (19, .iconst 2, 1), (20, .invokevirtual 138, 3), (23, .istore_n 3, 1), (24, .aload_n 0, 1), (25, .iload_n 1, 1), (26, .iconst 4, 1), (27, .invokevirtual 138, 3), (30, .istore 4, 2), (32, .aload_n 0, 1), (33, .iload_n 1, 1), (34, .iconst 3, 1), (35, .invokevirtual 138, 3), (38, .istore 5, 2), (40, .iload 5, 2), (42, .ifCond .ne 7, 3), (45, .lconst 0, 1), (46, .goto 15, 3), (49, .aload_n 0, 1), (50, .getfield 79, 3), (53, .aload_n 0, 1), (54, .iload_n 3, 1), (55, .iload 4, 2), (57, .invokevirtual 368, 3), (60, .laload, 1)] := allD_of (by decide +kernel)
def f12_mostBy (M : MM) (a0 : Nat) (a1 : Int32) : Option MM :=
  aO M a0 12 <|
  cI (f12_ruleOf M a0 a1 (0 : Int32)) fun r4 M4 =>
  aO M4 a0 12 <|
  cI (f12_ruleOf M4 a0 a1 (1 : Int32)) fun r10 M10 =>
  aO M10 a0 12 <|
  cI (f12_head M10 a0 r4 r10) fun r13 M13 =>
  aO M13 a0 12 <|
  cI (f12_ruleOf M13 a0 a1 (2 : Int32)) fun r20 M20 =>
  aO M20 a0 12 <|
  cI (f12_ruleOf M20 a0 a1 (4 : Int32)) fun r27 M27 =>
  aO M27 a0 12 <|
  cI (f12_ruleOf M27 a0 a1 (3 : Int32)) fun r35 M35 =>
  if r35 = 0 then
    f12_mostBy_b61 M35 a0 a1 r13 r20 r27 r35 (0 : Int64)
  else
    aO M35 a0 12 <|
    aO M35 a0 12 <|
    cI (f12_head M35 a0 r20 r27) fun r57 M57 =>
    aA M57 (mR M35 a0 40) 1 r57 <|
    f12_mostBy_b61 M57 a0 a1 r13 r20 r27 r35 (mJ M57 (mR M35 a0 40) r57.toNatClampNeg)
set_option maxRecDepth 4000 in
theorem T12_mostBy (M : MM) (a0 : Nat) (a1 : Int32) : ∀ q, f12_mostBy M a0 a1 = some q → Run i12_mostBy [vr a0, vi a1] M (Lv q) := by
  obtain ⟨d0, d1, d2, d3, d4, d7, d8, d9, d10, d13, d16, d17, d18, d19, d20, d23, d24, d25, d26, d27, d30, d32, d33, d34, d35, d38, d40, d42, d45, d46, d49, d50, d53, d54, d55, d57, d60, -⟩ := dd12_mostBy
  refine Run_of_X (by decide) (Nat.le_of_ble_eq_true rfl) ?_
  show X Lv i12_mostBy 0 [(0, vr a0), (1, vi a1)] [] M _
  unfold f12_mostBy
  refine X_aloadn 0 d0 rfl ?_
  refine X_aloadn 0 d1 rfl ?_
  refine X_iloadn 1 d2 rfl ?_
  refine X_iconst k_i_0 d3 ?_
  refine X_cVi (as := [vi a1, vi (0 : Int32)]) d4 cv_x12_138 ⟨by decide, by decide⟩ rfl (Nat.le_of_ble_eq_true rfl) (T12_ruleOf M a0 a1 (0 : Int32)) (fun r4 M4 _ => ?_)
  refine X_aloadn 0 d7 rfl ?_
  refine X_iloadn 1 d8 rfl ?_
  refine X_iconst k_i_1 d9 ?_
  refine X_cVi (as := [vi a1, vi (1 : Int32)]) d10 cv_x12_138 ⟨by decide, by decide⟩ rfl (Nat.le_of_ble_eq_true rfl) (T12_ruleOf M4 a0 a1 (1 : Int32)) (fun r10 M10 _ => ?_)
  refine X_cVi (as := [vi r4, vi r10]) d13 cv_x12_368 ⟨by decide, by decide⟩ rfl (Nat.le_of_ble_eq_true rfl) (T12_head M10 a0 r4 r10) (fun r13 M13 _ => ?_)
  refine X_istoren (lv' := [(2, vi r13), (0, vr a0), (1, vi a1)]) d16 (by decide) rfl ?_
  refine X_aloadn 1 d17 rfl ?_
  refine X_iloadn 2 d18 rfl ?_
  refine X_iconst k_i_2 d19 ?_
  refine X_cVi (as := [vi a1, vi (2 : Int32)]) d20 cv_x12_138 ⟨by decide, by decide⟩ rfl (Nat.le_of_ble_eq_true rfl) (T12_ruleOf M13 a0 a1 (2 : Int32)) (fun r20 M20 _ => ?_)
  refine X_istoren (lv' := [(3, vi r20), (2, vi r13), (0, vr a0), (1, vi a1)]) d23 (by decide) rfl ?_
  refine X_aloadn 2 d24 rfl ?_
  refine X_iloadn 3 d25 rfl ?_
  refine X_iconst k_i_4 d26 ?_
  refine X_cVi (as := [vi a1, vi (4 : Int32)]) d27 cv_x12_138 ⟨by decide, by decide⟩ rfl (Nat.le_of_ble_eq_true rfl) (T12_ruleOf M20 a0 a1 (4 : Int32)) (fun r27 M27 _ => ?_)
  refine X_istore (lv' := [(4, vi r27), (3, vi r20), (2, vi r13), (0, vr a0), (1, vi a1)]) d30 (by decide) rfl ?_
  refine X_aloadn 3 d32 rfl ?_
  refine X_iloadn 4 d33 rfl ?_
  refine X_iconst k_i_3 d34 ?_
  refine X_cVi (as := [vi a1, vi (3 : Int32)]) d35 cv_x12_138 ⟨by decide, by decide⟩ rfl (Nat.le_of_ble_eq_true rfl) (T12_ruleOf M27 a0 a1 (3 : Int32)) (fun r35 M35 _ => ?_)
  refine X_istore (lv' := [(5, vi r35), (4, vi r27), (3, vi r20), (2, vi r13), (0, vr a0), (1, vi a1)]) d38 (by decide) rfl ?_
  refine X_iload 0 d40 rfl ?_
  refine X_if_ne (t := 49) d42 rfl (fun h42 => ?_) (fun h42 => ?_)
  · refine X_lconst k_l_0 d45 ?_
    refine X_goto (t := 61) d46 rfl ?_
    refine X_sub [4, 5, 3, 2, 1, 0] rfl ?_
    exact T12_mostBy_b61 M35 a0 a1 r13 r20 r27 r35 (0 : Int64)
  · refine X_aloadn 4 d49 rfl ?_
    refine X_getR d50 fg_x12_79 ?_
    refine X_aloadn 4 d53 rfl ?_
    refine X_iloadn 2 d54 rfl ?_
    refine X_iload 1 d55 rfl ?_
    refine X_cVi (as := [vi r20, vi r27]) d57 cv_x12_368 ⟨by decide, by decide⟩ rfl (Nat.le_of_ble_eq_true rfl) (T12_head M35 a0 r20 r27) (fun r57 M57 _ => ?_)
    refine X_laload d60 ?_
    refine X_sub [4, 5, 3, 2, 1, 0] rfl ?_
    exact T12_mostBy_b61 M57 a0 a1 r13 r20 r27 r35 (mJ M57 (mR M35 a0 40) r57.toNatClampNeg)

theorem dd12_layMost_b81 : AllD (ib i12_layMost) [(81, .iinc 2 1, 3), (84, .goto (-29), 3)] := allD_of (by decide +kernel)
def f12_layMost_b81 (K55 : MM → Nat → Int32 → Int32 → Option MM) (M : MM) (a0 : Nat) (a1 : Int32) (a2 : Int32) : Option MM :=
  K55 M a0 a1 (a2 + (1 : Int32))
set_option maxRecDepth 4000 in
theorem T12_layMost_b81 {K55 : MM → Nat → Int32 → Int32 → Option MM} (hK55 : ∀ (M : MM) (a0 : Nat) (a1 : Int32) (a2 : Int32), X Lv i12_layMost 55 [(0, vr a0), (1, vi a1), (2, vi a2)] [] M (K55 M a0 a1 a2)) : ∀ (M : MM) (a0 : Nat) (a1 : Int32) (a2 : Int32), X Lv i12_layMost 81 [(0, vr a0), (1, vi a1), (2, vi a2)] [] M (f12_layMost_b81 K55 M a0 a1 a2) := by
  obtain ⟨d81, d84, -⟩ := dd12_layMost_b81
  intro M a0 a1 a2
  unfold f12_layMost_b81
  refine X_inc (lv' := [(2, vi (a2 + (1 : Int32))), (0, vr a0), (1, vi a1)]) 2 d81 k_i_1 rfl (by decide) rfl ?_
  refine X_goto (t := 55) d84 rfl ?_
  refine X_sub [1, 2, 0] rfl ?_
  exact hK55 M a0 a1 (a2 + (1 : Int32))

theorem dd12_layMost_b55 : AllD (ib i12_layMost) [(55, .iload_n 2, 1), (56, .aload_n 0, 1), (57, .getfield 7, 3), (60, .iconst 2, 1), (61, .iaload, 1), (62, .if_icmp .ge 25, 3), (65, .aload_n 0, 1), (66, .getfield 131, 3), (69, .iload_n 2, 1), (70, .invokestatic 134, 3), (73, .ifCond .ne 8, 3), (76, .aload_n 0, 1), (77, .iload_n 2, 1), (78, .invokevirtual 395, 3), (87, .iinc 1 1, 3), (90, .goto (-43), 3)] := allD_of (by decide +kernel)
def f12_layMost_b55_body (K47 : MM → Nat → Int32 → Option MM) (rc : MM → Nat → Int32 → Int32 → Option MM) (M : MM) (a0 : Nat) (a1 : Int32) (a2 : Int32) : Option MM :=
  aO M a0 12 <|
  aA M (mR M a0 1) 0 (2 : Int32) <|
  if (mI M (mR M a0 1) (2 : Int32).toNatClampNeg) ≤ a2 then
    K47 M a0 (a1 + (1 : Int32))
  else
    aO M a0 12 <|
    cI (f12_isOf M (mI M a0 5) a2) fun r70 M70 =>
    if r70 = 0 then
      aO M70 a0 12 <|
      cV (f12_mostBy M70 a0 a2) fun M78 =>
      (f12_layMost_b81 rc) M78 a0 a1 a2
    else
      (f12_layMost_b81 rc) M70 a0 a1 a2
def f12_layMost_b55 (K47 : MM → Nat → Int32 → Option MM) : MM → Nat → Int32 → Int32 → Option MM := LP4 (f12_layMost_b55_body K47) FU
set_option maxRecDepth 4000 in
theorem T12_layMost_b55 {K47 : MM → Nat → Int32 → Option MM} (hK47 : ∀ (M : MM) (a0 : Nat) (a1 : Int32), X Lv i12_layMost 47 [(0, vr a0), (1, vi a1)] [] M (K47 M a0 a1)) : ∀ (M : MM) (a0 : Nat) (a1 : Int32) (a2 : Int32), X Lv i12_layMost 55 [(0, vr a0), (1, vi a1), (2, vi a2)] [] M (f12_layMost_b55 K47 M a0 a1 a2) := by
  obtain ⟨d55, d56, d57, d60, d61, d62, d65, d66, d69, d70, d73, d76, d77, d78, d87, d90, -⟩ := dd12_layMost_b55
  refine LP4_i (P := fun M a0 a1 a2 o => X Lv i12_layMost 55 [(0, vr a0), (1, vi a1), (2, vi a2)] [] M o) (fun _ _ _ _ => X_none) (fun rc ih M a0 a1 a2 => ?_) FU
  unfold f12_layMost_b55_body
  refine X_iloadn 2 d55 rfl ?_
  refine X_aloadn 0 d56 rfl ?_
  refine X_getR d57 fg_x12_7 ?_
  refine X_iconst k_i_2 d60 ?_
  refine X_iaload d61 ?_
  refine X_icmp_ge (t := 87) d62 rfl (fun h62 => ?_) (fun h62 => ?_)
  · refine X_inc (lv' := [(1, vi (a1 + (1 : Int32))), (0, vr a0), (2, vi a2)]) 1 d87 k_i_1 rfl (by decide) rfl ?_
    refine X_goto (t := 47) d90 rfl ?_
    refine X_sub [1, 0] rfl ?_
    exact hK47 M a0 (a1 + (1 : Int32))
  · refine X_aloadn 0 d65 rfl ?_
    refine X_getI d66 fg_x12_131 ?_
    refine X_iloadn 2 d69 rfl ?_
    refine X_cSi (as := [vi (mI M a0 5), vi a2]) d70 cs_x12_134 ⟨by decide, by decide⟩ rfl (Nat.le_of_ble_eq_true rfl) (T12_isOf M (mI M a0 5) a2) (fun r70 M70 _ => ?_)
    refine X_if_ne (t := 81) d73 rfl (fun h73 => ?_) (fun h73 => ?_)
    · refine X_aloadn 0 d76 rfl ?_
      refine X_iloadn 2 d77 rfl ?_
      refine X_cVv (as := [vi a2]) d78 cv_x12_395 ⟨by decide, by decide⟩ rfl (Nat.le_of_ble_eq_true rfl) (T12_mostBy M70 a0 a2) (fun M78 _ => ?_)
      exact (T12_layMost_b81 ih) M78 a0 a1 a2
    · exact (T12_layMost_b81 ih) M70 a0 a1 a2

theorem dd12_layMost_b47 : AllD (ib i12_layMost) [(47, .iload_n 1, 1), (48, .bipush 30, 2), (50, .if_icmp .gt 43, 3), (53, .iconst 0, 1), (54, .istore_n 2, 1), (93, .return_, 1)] := allD_of (by decide +kernel)
def f12_layMost_b47_body (rc : MM → Nat → Int32 → Option MM) (M : MM) (a0 : Nat) (a1 : Int32) : Option MM :=
  if (30 : Int32) < a1 then
    some M
  else
    (f12_layMost_b55 rc) M a0 a1 (0 : Int32)
def f12_layMost_b47 : MM → Nat → Int32 → Option MM := LP3 (f12_layMost_b47_body) FU
set_option maxRecDepth 4000 in
theorem T12_layMost_b47 : ∀ (M : MM) (a0 : Nat) (a1 : Int32), X Lv i12_layMost 47 [(0, vr a0), (1, vi a1)] [] M (f12_layMost_b47 M a0 a1) := by
  obtain ⟨d47, d48, d50, d53, d54, d93, -⟩ := dd12_layMost_b47
  refine LP3_i (P := fun M a0 a1 o => X Lv i12_layMost 47 [(0, vr a0), (1, vi a1)] [] M o) (fun _ _ _ => X_none) (fun rc ih M a0 a1 => ?_) FU
  unfold f12_layMost_b47_body
  refine X_iloadn 1 d47 rfl ?_
  refine X_bipush k_b_30 d48 ?_
  refine X_icmp_gt (t := 93) d50 rfl (fun h50 => ?_) (fun h50 => ?_)
  · exact X_vreturn d93 rfl rfl
  · refine X_iconst k_i_0 d53 ?_
    refine X_istoren (lv' := [(2, vi (0 : Int32)), (0, vr a0), (1, vi a1)]) d54 (by decide) rfl ?_
    refine X_sub [1, 2, 0] rfl ?_
    exact (T12_layMost_b55 ih) M a0 a1 (0 : Int32)

theorem dd12_layMost_b23 : AllD (ib i12_layMost) [(23, .iload_n 1, 1), (24, .sipush 150, 3), (27, .if_icmp .ge 18, 3), (30, .aload_n 0, 1), (31, .getfield 82, 3), (34, .iload_n 1, 1), (35, .ldc2_w 116, 3), (38, .lastore, 1), (39, .iinc 1 1, 3), (42, .goto (-19), 3), (45, .iconst 0, 1), (46, .istore_n 1, 1)] := allD_of (by decide +kernel)
def f12_layMost_b23_body (rc : MM → Nat → Int32 → Option MM) (M : MM) (a0 : Nat) (a1 : Int32) : Option MM :=
  if (150 : Int32) ≤ a1 then
    f12_layMost_b47 M a0 (0 : Int32)
  else
    aO M a0 12 <|
    aA M (mR M a0 41) 1 a1 <|
    bM (sJ M (mR M a0 41) a1.toNatClampNeg (-1 : Int64)) fun M38 =>
    rc M38 a0 (a1 + (1 : Int32))
def f12_layMost_b23 : MM → Nat → Int32 → Option MM := LP3 (f12_layMost_b23_body) FU
set_option maxRecDepth 4000 in
theorem T12_layMost_b23 : ∀ (M : MM) (a0 : Nat) (a1 : Int32), X Lv i12_layMost 23 [(0, vr a0), (1, vi a1)] [] M (f12_layMost_b23 M a0 a1) := by
  obtain ⟨d23, d24, d27, d30, d31, d34, d35, d38, d39, d42, d45, d46, -⟩ := dd12_layMost_b23
  refine LP3_i (P := fun M a0 a1 o => X Lv i12_layMost 23 [(0, vr a0), (1, vi a1)] [] M o) (fun _ _ _ => X_none) (fun rc ih M a0 a1 => ?_) FU
  unfold f12_layMost_b23_body
  refine X_iloadn 1 d23 rfl ?_
  refine X_sipush k_s_150 d24 ?_
  refine X_icmp_ge (t := 45) d27 rfl (fun h27 => ?_) (fun h27 => ?_)
  · refine X_iconst k_i_0 d45 ?_
    refine X_istoren (lv' := [(1, vi (0 : Int32)), (0, vr a0)]) d46 (by decide) rfl ?_
    refine X_sub [1, 0] rfl ?_
    exact T12_layMost_b47 M a0 (0 : Int32)
  · refine X_aloadn 0 d30 rfl ?_
    refine X_getR d31 fg_x12_82 ?_
    refine X_iloadn 1 d34 rfl ?_
    refine X_ldc2 kc_x12_116 d35 ?_
    refine X_lastore d38 ?_
    refine X_bM fun M38 _ => ?_
    refine X_inc (lv' := [(1, vi (a1 + (1 : Int32))), (0, vr a0)]) 1 d39 k_i_1 rfl (by decide) rfl ?_
    refine X_goto (t := 23) d42 rfl ?_
    refine X_sub [1, 0] rfl ?_
    exact ih M38 a0 (a1 + (1 : Int32))

theorem dd12_layMost_b2 : AllD (ib i12_layMost) [(2, .iload_n 1, 1), (3, .bipush 30, 2), (5, .if_icmp .ge 16, 3), (8, .aload_n 0, 1), (9, .getfield 79, 3), (12, .iload_n 1, 1), (13, .lconst 0, 1), (14, .lastore, 1), (15, .iinc 1 1, 3), (18, .goto (-16), 3), (21, .iconst 0, 1), (22, .istore_n 1, 1)] := allD_of (by decide +kernel)
def f12_layMost_b2_body (rc : MM → Nat → Int32 → Option MM) (M : MM) (a0 : Nat) (a1 : Int32) : Option MM :=
  if (30 : Int32) ≤ a1 then
    f12_layMost_b23 M a0 (0 : Int32)
  else
    aO M a0 12 <|
    aA M (mR M a0 40) 1 a1 <|
    bM (sJ M (mR M a0 40) a1.toNatClampNeg (0 : Int64)) fun M14 =>
    rc M14 a0 (a1 + (1 : Int32))
def f12_layMost_b2 : MM → Nat → Int32 → Option MM := LP3 (f12_layMost_b2_body) FU
set_option maxRecDepth 4000 in
theorem T12_layMost_b2 : ∀ (M : MM) (a0 : Nat) (a1 : Int32), X Lv i12_layMost 2 [(0, vr a0), (1, vi a1)] [] M (f12_layMost_b2 M a0 a1) := by
  obtain ⟨d2, d3, d5, d8, d9, d12, d13, d14, d15, d18, d21, d22, -⟩ := dd12_layMost_b2
  refine LP3_i (P := fun M a0 a1 o => X Lv i12_layMost 2 [(0, vr a0), (1, vi a1)] [] M o) (fun _ _ _ => X_none) (fun rc ih M a0 a1 => ?_) FU
  unfold f12_layMost_b2_body
  refine X_iloadn 1 d2 rfl ?_
  refine X_bipush k_b_30 d3 ?_
  refine X_icmp_ge (t := 21) d5 rfl (fun h5 => ?_) (fun h5 => ?_)
  · refine X_iconst k_i_0 d21 ?_
    refine X_istoren (lv' := [(1, vi (0 : Int32)), (0, vr a0)]) d22 (by decide) rfl ?_
    refine X_sub [1, 0] rfl ?_
    exact T12_layMost_b23 M a0 (0 : Int32)
  · refine X_aloadn 0 d8 rfl ?_
    refine X_getR d9 fg_x12_79 ?_
    refine X_iloadn 1 d12 rfl ?_
    refine X_lconst k_l_0 d13 ?_
    refine X_lastore d14 ?_
    refine X_bM fun M14 _ => ?_
    refine X_inc (lv' := [(1, vi (a1 + (1 : Int32))), (0, vr a0)]) 1 d15 k_i_1 rfl (by decide) rfl ?_
    refine X_goto (t := 2) d18 rfl ?_
    refine X_sub [1, 0] rfl ?_
    exact ih M14 a0 (a1 + (1 : Int32))

theorem dd12_layMost : AllD (ib i12_layMost) [(0, .iconst 0, 1), (1, .istore_n 1, 1)] := allD_of (by decide +kernel)
def f12_layMost (M : MM) (a0 : Nat) : Option MM :=
  f12_layMost_b2 M a0 (0 : Int32)
set_option maxRecDepth 4000 in
theorem T12_layMost (M : MM) (a0 : Nat) : ∀ q, f12_layMost M a0 = some q → Run i12_layMost [vr a0] M (Lv q) := by
  obtain ⟨d0, d1, -⟩ := dd12_layMost
  refine Run_of_X (by decide) (Nat.le_of_ble_eq_true rfl) ?_
  show X Lv i12_layMost 0 [(0, vr a0)] [] M _
  unfold f12_layMost
  refine X_iconst k_i_0 d0 ?_
  refine X_istoren (lv' := [(1, vi (0 : Int32)), (0, vr a0)]) d1 (by decide) rfl ?_
  refine X_sub [1, 0] rfl ?_
  exact T12_layMost_b2 M a0 (0 : Int32)

theorem dd12_longest_b60 : AllD (ib i12_longest) [(60, .lconst 0, 1), (61, .goto 21, 3)] := allD_of (by decide +kernel)
def f12_longest_b60 (K82 : MM → Nat → Int32 → Int32 → Int64 → Option (Int64 × MM)) (M : MM) (a0 : Nat) (a1 : Int32) (a2 : Int32) : Option (Int64 × MM) :=
  K82 M a0 a1 a2 (0 : Int64)
set_option maxRecDepth 4000 in
theorem T12_longest_b60 {K82 : MM → Nat → Int32 → Int32 → Int64 → Option (Int64 × MM)} (hK82 : ∀ (M : MM) (a0 : Nat) (a1 : Int32) (a2 : Int32) (s0 : Int64), X Ll i12_longest 82 [(0, vr a0), (1, vi a1), (2, vi a2)] [vl s0] M (K82 M a0 a1 a2 s0)) : ∀ (M : MM) (a0 : Nat) (a1 : Int32) (a2 : Int32), X Ll i12_longest 60 [(0, vr a0), (1, vi a1), (2, vi a2)] [] M (f12_longest_b60 K82 M a0 a1 a2) := by
  obtain ⟨d60, d61, -⟩ := dd12_longest_b60
  intro M a0 a1 a2
  unfold f12_longest_b60
  refine X_lconst k_l_0 d60 ?_
  refine X_goto (t := 82) d61 rfl ?_
  exact hK82 M a0 a1 a2 (0 : Int64)

theorem dd12_longest_b154 : AllD (ib i12_longest) [(154, .aload_n 0, 1), (155, .getfield 85, 3), (158, .iconst 5, 1), (159, .iload_n 1, 1), (160, .imul, 1), (161, .iload_n 2, 1), (162, .iadd, 1), (163, .lload_n 3, 1), (164, .lastore, 1), (165, .iinc 2 1, 3), (168, .goto (-125), 3)] := allD_of (by decide +kernel)
def f12_longest_b154 (K43 : MM → Nat → Int32 → Int32 → Option (Int64 × MM)) (M : MM) (a0 : Nat) (a1 : Int32) (a2 : Int32) (a3 : Int64) : Option (Int64 × MM) :=
  aO M a0 12 <|
  aA M (mR M a0 42) 1 (((5 : Int32) * a1) + a2) <|
  bM (sJ M (mR M a0 42) (((5 : Int32) * a1) + a2).toNatClampNeg a3) fun M164 =>
  K43 M164 a0 a1 (a2 + (1 : Int32))
set_option maxRecDepth 4000 in
theorem T12_longest_b154 {K43 : MM → Nat → Int32 → Int32 → Option (Int64 × MM)} (hK43 : ∀ (M : MM) (a0 : Nat) (a1 : Int32) (a2 : Int32), X Ll i12_longest 43 [(0, vr a0), (1, vi a1), (2, vi a2)] [] M (K43 M a0 a1 a2)) : ∀ (M : MM) (a0 : Nat) (a1 : Int32) (a2 : Int32) (a3 : Int64), X Ll i12_longest 154 [(0, vr a0), (1, vi a1), (2, vi a2), (3, vl a3)] [] M (f12_longest_b154 K43 M a0 a1 a2 a3) := by
  obtain ⟨d154, d155, d158, d159, d160, d161, d162, d163, d164, d165, d168, -⟩ := dd12_longest_b154
  intro M a0 a1 a2 a3
  unfold f12_longest_b154
  refine X_aloadn 0 d154 rfl ?_
  refine X_getR d155 fg_x12_85 ?_
  refine X_iconst k_i_5 d158 ?_
  refine X_iloadn 1 d159 rfl ?_
  refine X_imul d160 ?_
  refine X_iloadn 2 d161 rfl ?_
  refine X_iadd d162 ?_
  refine X_lloadn 3 d163 rfl ?_
  refine X_lastore d164 ?_
  refine X_bM fun M164 _ => ?_
  refine X_inc (lv' := [(2, vi (a2 + (1 : Int32))), (0, vr a0), (1, vi a1), (3, vl a3)]) 2 d165 k_i_1 rfl (by decide) rfl ?_
  refine X_goto (t := 43) d168 rfl ?_
  refine X_sub [1, 2, 0] rfl ?_
  exact hK43 M164 a0 a1 (a2 + (1 : Int32))

theorem dd12_longest_b86 : AllD (ib i12_longest) [(86, .iload 5, 2), (88, .aload_n 0, 1), (89, .invokevirtual 120, 3), (92, .if_icmp .ge 62, 3), (95, .iload_n 1, 1), (96, .ifCond .le 58, 3), (99, .iload_n 2, 1), (100, .aload_n 0, 1), (101, .invokevirtual 120, 3), (104, .if_icmp .ge 50, 3), (107, .lload_n 3, 1), (108, .aload_n 0, 1), (109, .getfield 82, 3), (112, .aload_n 0, 1), (113, .iload_n 2, 1), (114, .aload_n 0, 1), (115, .getfield 29, 3), (118, .iload_n 1, 1), (119, .iconst 1, 1), (120, .isub, 1), (121, .iaload, 1), (122, .iload 5, 2), (124, .invokevirtual 398, 3), (127, .laload, 1), (128, .aload_n 0, 1), (129, .getfield 85, 3), (132, .iconst 5, 1), (133, .iload_n 1, 1), (134, .iconst 1, 1), (135, .isub, 1), (136, .imul, 1), (137, .iload 5, 2), (139, .iadd, 1), (140, .laload, 1), (141, .invokestatic 292, 3), (144, .invokestatic 401, 3), (147, .lstore_n 3, 1), (148, .iinc 5 1, 3), (151, .goto (-65), 3)] := allD_of (by decide +kernel)
def f12_longest_b86_body (K43 : MM → Nat → Int32 → Int32 → Option (Int64 × MM)) (rc : MM → Nat → Int32 → Int32 → Int64 → Int32 → Option (Int64 × MM)) (M : MM) (a0 : Nat) (a1 : Int32) (a2 : Int32) (a3 : Int64) (a5 : Int32) : Option (Int64 × MM) :=
  aO M a0 12 <|
  cI (f12_states M a0) fun r89 M89 =>
  if r89 ≤ a5 then
    (f12_longest_b154 K43) M89 a0 a1 a2 a3
  else
    if a1 ≤ 0 then
      (f12_longest_b154 K43) M89 a0 a1 a2 a3
    else
      aO M89 a0 12 <|
      cI (f12_states M89 a0) fun r101 M101 =>
      if r101 ≤ a2 then
        (f12_longest_b154 K43) M101 a0 a1 a2 a3
      else
        aO M101 a0 12 <|
        aO M101 a0 12 <|
        aA M101 (mR M101 a0 17) 0 (a1 - (1 : Int32)) <|
        aO M101 a0 12 <|
        cI (f12_popCell M101 a0 a2 (mI M101 (mR M101 a0 17) (a1 - (1 : Int32)).toNatClampNeg) a5) fun r124 M124 =>
        aA M124 (mR M101 a0 41) 1 r124 <|
        aO M124 a0 12 <|
        aA M124 (mR M124 a0 42) 1 (((5 : Int32) * (a1 - (1 : Int32))) + a5) <|
        cJ (f12_sum M124 (mJ M124 (mR M101 a0 41) r124.toNatClampNeg) (mJ M124 (mR M124 a0 42) (((5 : Int32) * (a1 - (1 : Int32))) + a5).toNatClampNeg)) fun r141 M141 =>
        cJ (f12_longer M141 a3 r141) fun r144 M144 =>
        rc M144 a0 a1 a2 r144 (a5 + (1 : Int32))
def f12_longest_b86 (K43 : MM → Nat → Int32 → Int32 → Option (Int64 × MM)) : MM → Nat → Int32 → Int32 → Int64 → Int32 → Option (Int64 × MM) := LP6 (f12_longest_b86_body K43) FU
set_option maxRecDepth 4000 in
theorem T12_longest_b86 {K43 : MM → Nat → Int32 → Int32 → Option (Int64 × MM)} (hK43 : ∀ (M : MM) (a0 : Nat) (a1 : Int32) (a2 : Int32), X Ll i12_longest 43 [(0, vr a0), (1, vi a1), (2, vi a2)] [] M (K43 M a0 a1 a2)) : ∀ (M : MM) (a0 : Nat) (a1 : Int32) (a2 : Int32) (a3 : Int64) (a5 : Int32), X Ll i12_longest 86 [(0, vr a0), (1, vi a1), (2, vi a2), (3, vl a3), (5, vi a5)] [] M (f12_longest_b86 K43 M a0 a1 a2 a3 a5) := by
  obtain ⟨d86, d88, d89, d92, d95, d96, d99, d100, d101, d104, d107, d108, d109, d112, d113, d114, d115, d118, d119, d120, d121, d122, d124, d127, d128, d129, d132, d133, d134, d135, d136, d137, d139, d140, d141, d144, d147, d148, d151, -⟩ := dd12_longest_b86
  refine LP6_i (P := fun M a0 a1 a2 a3 a5 o => X Ll i12_longest 86 [(0, vr a0), (1, vi a1), (2, vi a2), (3, vl a3), (5, vi a5)] [] M o) (fun _ _ _ _ _ _ => X_none) (fun rc ih M a0 a1 a2 a3 a5 => ?_) FU
  unfold f12_longest_b86_body
  refine X_iload 4 d86 rfl ?_
  refine X_aloadn 0 d88 rfl ?_
  refine X_cVi (as := []) d89 cv_x12_120 ⟨by decide, by decide⟩ rfl (Nat.le_of_ble_eq_true rfl) (T12_states M a0) (fun r89 M89 _ => ?_)
  refine X_icmp_ge (t := 154) d92 rfl (fun h92 => ?_) (fun h92 => ?_)
  · refine X_sub [0, 1, 2, 3] rfl ?_
    exact (T12_longest_b154 hK43) M89 a0 a1 a2 a3
  · refine X_iloadn 1 d95 rfl ?_
    refine X_if_le (t := 154) d96 rfl (fun h96 => ?_) (fun h96 => ?_)
    · refine X_sub [0, 1, 2, 3] rfl ?_
      exact (T12_longest_b154 hK43) M89 a0 a1 a2 a3
    · refine X_iloadn 2 d99 rfl ?_
      refine X_aloadn 0 d100 rfl ?_
      refine X_cVi (as := []) d101 cv_x12_120 ⟨by decide, by decide⟩ rfl (Nat.le_of_ble_eq_true rfl) (T12_states M89 a0) (fun r101 M101 _ => ?_)
      refine X_icmp_ge (t := 154) d104 rfl (fun h104 => ?_) (fun h104 => ?_)
      · refine X_sub [0, 1, 2, 3] rfl ?_
        exact (T12_longest_b154 hK43) M101 a0 a1 a2 a3
      · refine X_lloadn 3 d107 rfl ?_
        refine X_aloadn 0 d108 rfl ?_
        refine X_getR d109 fg_x12_82 ?_
        refine X_aloadn 0 d112 rfl ?_
        refine X_iloadn 2 d113 rfl ?_
        refine X_aloadn 0 d114 rfl ?_
        refine X_getR d115 fg_x12_29 ?_
        refine X_iloadn 1 d118 rfl ?_
        refine X_iconst k_i_1 d119 ?_
        refine X_isub d120 ?_
        refine X_iaload d121 ?_
        refine X_iload 4 d122 rfl ?_
        refine X_cVi (as := [vi a2, vi (mI M101 (mR M101 a0 17) (a1 - (1 : Int32)).toNatClampNeg), vi a5]) d124 cv_x12_398 ⟨by decide, by decide⟩ rfl (Nat.le_of_ble_eq_true rfl) (T12_popCell M101 a0 a2 (mI M101 (mR M101 a0 17) (a1 - (1 : Int32)).toNatClampNeg) a5) (fun r124 M124 _ => ?_)
        refine X_laload d127 ?_
        refine X_aloadn 0 d128 rfl ?_
        refine X_getR d129 fg_x12_85 ?_
        refine X_iconst k_i_5 d132 ?_
        refine X_iloadn 1 d133 rfl ?_
        refine X_iconst k_i_1 d134 ?_
        refine X_isub d135 ?_
        refine X_imul d136 ?_
        refine X_iload 4 d137 rfl ?_
        refine X_iadd d139 ?_
        refine X_laload d140 ?_
        refine X_cSl (as := [vl (mJ M124 (mR M101 a0 41) r124.toNatClampNeg), vl (mJ M124 (mR M124 a0 42) (((5 : Int32) * (a1 - (1 : Int32))) + a5).toNatClampNeg)]) d141 cs_x12_292 ⟨by decide, by decide⟩ rfl (Nat.le_of_ble_eq_true rfl) (T12_sum M124 (mJ M124 (mR M101 a0 41) r124.toNatClampNeg) (mJ M124 (mR M124 a0 42) (((5 : Int32) * (a1 - (1 : Int32))) + a5).toNatClampNeg)) (fun r141 M141 _ => ?_)
        refine X_cSl (as := [vl a3, vl r141]) d144 cs_x12_401 ⟨by decide, by decide⟩ rfl (Nat.le_of_ble_eq_true rfl) (T12_longer M141 a3 r141) (fun r144 M144 _ => ?_)
        refine X_lstoren (lv' := [(3, vl r144), (0, vr a0), (1, vi a1), (2, vi a2), (5, vi a5)]) d147 (by decide) rfl ?_
        refine X_inc (lv' := [(5, vi (a5 + (1 : Int32))), (3, vl r144), (0, vr a0), (1, vi a1), (2, vi a2)]) 4 d148 k_i_1 rfl (by decide) rfl ?_
        refine X_goto (t := 86) d151 rfl ?_
        refine X_sub [2, 3, 4, 1, 0] rfl ?_
        exact ih M144 a0 a1 a2 r144 (a5 + (1 : Int32))

theorem dd12_longest_b82 : AllD (ib i12_longest) [(82, .lstore_n 3, 1), (83, .iconst 0, 1), (84, .istore 5, 2)] := allD_of (by decide +kernel)
def f12_longest_b82 (K43 : MM → Nat → Int32 → Int32 → Option (Int64 × MM)) (M : MM) (a0 : Nat) (a1 : Int32) (a2 : Int32) (s0 : Int64) : Option (Int64 × MM) :=
  (f12_longest_b86 K43) M a0 a1 a2 s0 (0 : Int32)
set_option maxRecDepth 4000 in
theorem T12_longest_b82 {K43 : MM → Nat → Int32 → Int32 → Option (Int64 × MM)} (hK43 : ∀ (M : MM) (a0 : Nat) (a1 : Int32) (a2 : Int32), X Ll i12_longest 43 [(0, vr a0), (1, vi a1), (2, vi a2)] [] M (K43 M a0 a1 a2)) : ∀ (M : MM) (a0 : Nat) (a1 : Int32) (a2 : Int32) (s0 : Int64), X Ll i12_longest 82 [(0, vr a0), (1, vi a1), (2, vi a2)] [vl s0] M (f12_longest_b82 K43 M a0 a1 a2 s0) := by
  obtain ⟨d82, d83, d84, -⟩ := dd12_longest_b82
  intro M a0 a1 a2 s0
  unfold f12_longest_b82
  refine X_lstoren (lv' := [(3, vl s0), (0, vr a0), (1, vi a1), (2, vi a2)]) d82 (by decide) rfl ?_
  refine X_iconst k_i_0 d83 ?_
  refine X_istore (lv' := [(5, vi (0 : Int32)), (3, vl s0), (0, vr a0), (1, vi a1), (2, vi a2)]) d84 (by decide) rfl ?_
  refine X_sub [2, 3, 4, 1, 0] rfl ?_
  exact (T12_longest_b86 hK43) M a0 a1 a2 s0 (0 : Int32)

theorem dd12_longest_b43 : AllD (ib i12_longest) [(43, .iload_n 2, 1), (44, .iconst 5, 1), (45, .if_icmp .ge 126, 3), (48, .iload_n 1, 1), (49, .ifCond .eq 11, 3), (52, .iload_n 2, 1), (53, .aload_n 0, 1), (54, .invokevirtual 120, 3), (57, .if_icmp .lt 7, 3), (64, .aload_n 0, 1), (65, .getfield 79, 3), (68, .aload_n 0, 1), (69, .iload_n 2, 1), (70, .aload_n 0, 1), (71, .getfield 29, 3), (74, .iload_n 1, 1), (75, .iconst 1, 1), (76, .isub, 1), (77, .iaload, 1), (78, .invokevirtual 368, 3), (81, .laload, 1), (171, .iinc 1 1, 3), (174, .goto (-141), 3)] := allD_of (by decide +kernel)
def f12_longest_b43_body (K33 : MM → Nat → Int32 → Option (Int64 × MM)) (rc : MM → Nat → Int32 → Int32 → Option (Int64 × MM)) (M : MM) (a0 : Nat) (a1 : Int32) (a2 : Int32) : Option (Int64 × MM) :=
  if (5 : Int32) ≤ a2 then
    K33 M a0 (a1 + (1 : Int32))
  else
    if a1 = 0 then
      (f12_longest_b60 (f12_longest_b82 rc)) M a0 a1 a2
    else
      aO M a0 12 <|
      cI (f12_states M a0) fun r54 M54 =>
      if a2 < r54 then
        aO M54 a0 12 <|
        aO M54 a0 12 <|
        aA M54 (mR M54 a0 17) 0 (a1 - (1 : Int32)) <|
        aO M54 a0 12 <|
        cI (f12_head M54 a0 a2 (mI M54 (mR M54 a0 17) (a1 - (1 : Int32)).toNatClampNeg)) fun r78 M78 =>
        aA M78 (mR M54 a0 40) 1 r78 <|
        (f12_longest_b82 rc) M78 a0 a1 a2 (mJ M78 (mR M54 a0 40) r78.toNatClampNeg)
      else
        (f12_longest_b60 (f12_longest_b82 rc)) M54 a0 a1 a2
def f12_longest_b43 (K33 : MM → Nat → Int32 → Option (Int64 × MM)) : MM → Nat → Int32 → Int32 → Option (Int64 × MM) := LP4 (f12_longest_b43_body K33) FU
set_option maxRecDepth 4000 in
theorem T12_longest_b43 {K33 : MM → Nat → Int32 → Option (Int64 × MM)} (hK33 : ∀ (M : MM) (a0 : Nat) (a1 : Int32), X Ll i12_longest 33 [(0, vr a0), (1, vi a1)] [] M (K33 M a0 a1)) : ∀ (M : MM) (a0 : Nat) (a1 : Int32) (a2 : Int32), X Ll i12_longest 43 [(0, vr a0), (1, vi a1), (2, vi a2)] [] M (f12_longest_b43 K33 M a0 a1 a2) := by
  obtain ⟨d43, d44, d45, d48, d49, d52, d53, d54, d57, d64, d65, d68, d69, d70, d71, d74, d75, d76, d77, d78, d81, d171, d174, -⟩ := dd12_longest_b43
  refine LP4_i (P := fun M a0 a1 a2 o => X Ll i12_longest 43 [(0, vr a0), (1, vi a1), (2, vi a2)] [] M o) (fun _ _ _ _ => X_none) (fun rc ih M a0 a1 a2 => ?_) FU
  unfold f12_longest_b43_body
  refine X_iloadn 2 d43 rfl ?_
  refine X_iconst k_i_5 d44 ?_
  refine X_icmp_ge (t := 171) d45 rfl (fun h45 => ?_) (fun h45 => ?_)
  · refine X_inc (lv' := [(1, vi (a1 + (1 : Int32))), (0, vr a0), (2, vi a2)]) 1 d171 k_i_1 rfl (by decide) rfl ?_
    refine X_goto (t := 33) d174 rfl ?_
    refine X_sub [1, 0] rfl ?_
    exact hK33 M a0 (a1 + (1 : Int32))
  · refine X_iloadn 1 d48 rfl ?_
    refine X_if_eq (t := 60) d49 rfl (fun h49 => ?_) (fun h49 => ?_)
    · exact (T12_longest_b60 (T12_longest_b82 ih)) M a0 a1 a2
    · refine X_iloadn 2 d52 rfl ?_
      refine X_aloadn 0 d53 rfl ?_
      refine X_cVi (as := []) d54 cv_x12_120 ⟨by decide, by decide⟩ rfl (Nat.le_of_ble_eq_true rfl) (T12_states M a0) (fun r54 M54 _ => ?_)
      refine X_icmp_lt (t := 64) d57 rfl (fun h57 => ?_) (fun h57 => ?_)
      · refine X_aloadn 0 d64 rfl ?_
        refine X_getR d65 fg_x12_79 ?_
        refine X_aloadn 0 d68 rfl ?_
        refine X_iloadn 2 d69 rfl ?_
        refine X_aloadn 0 d70 rfl ?_
        refine X_getR d71 fg_x12_29 ?_
        refine X_iloadn 1 d74 rfl ?_
        refine X_iconst k_i_1 d75 ?_
        refine X_isub d76 ?_
        refine X_iaload d77 ?_
        refine X_cVi (as := [vi a2, vi (mI M54 (mR M54 a0 17) (a1 - (1 : Int32)).toNatClampNeg)]) d78 cv_x12_368 ⟨by decide, by decide⟩ rfl (Nat.le_of_ble_eq_true rfl) (T12_head M54 a0 a2 (mI M54 (mR M54 a0 17) (a1 - (1 : Int32)).toNatClampNeg)) (fun r78 M78 _ => ?_)
        refine X_laload d81 ?_
        exact (T12_longest_b82 ih) M78 a0 a1 a2 (mJ M78 (mR M54 a0 40) r78.toNatClampNeg)
      · exact (T12_longest_b60 (T12_longest_b82 ih)) M54 a0 a1 a2

theorem dd12_longest_b33 : AllD (ib i12_longest) [(33, .iload_n 1, 1), (34, .aload_n 0, 1), (35, .getfield 255, 3), (38, .if_icmp .gt 139, 3), (41, .iconst 0, 1), (42, .istore_n 2, 1), (177, .aload_n 0, 1), (178, .getfield 85, 3), (181, .iconst 5, 1), (182, .aload_n 0, 1), (183, .getfield 255, 3), (186, .imul, 1), (187, .aload_n 0, 1), (188, .getfield 252, 3), (191, .iadd, 1), (192, .laload, 1), (193, .lreturn, 1)] := allD_of (by decide +kernel)
def f12_longest_b33_body (rc : MM → Nat → Int32 → Option (Int64 × MM)) (M : MM) (a0 : Nat) (a1 : Int32) : Option (Int64 × MM) :=
  aO M a0 12 <|
  if (mI M a0 21) < a1 then
    aO M a0 12 <|
    aO M a0 12 <|
    aO M a0 12 <|
    aA M (mR M a0 42) 1 (((5 : Int32) * (mI M a0 21)) + (mI M a0 20)) <|
    some (mJ M (mR M a0 42) (((5 : Int32) * (mI M a0 21)) + (mI M a0 20)).toNatClampNeg, M)
  else
    (f12_longest_b43 rc) M a0 a1 (0 : Int32)
def f12_longest_b33 : MM → Nat → Int32 → Option (Int64 × MM) := LP3 (f12_longest_b33_body) FU
set_option maxRecDepth 4000 in
theorem T12_longest_b33 : ∀ (M : MM) (a0 : Nat) (a1 : Int32), X Ll i12_longest 33 [(0, vr a0), (1, vi a1)] [] M (f12_longest_b33 M a0 a1) := by
  obtain ⟨d33, d34, d35, d38, d41, d42, d177, d178, d181, d182, d183, d186, d187, d188, d191, d192, d193, -⟩ := dd12_longest_b33
  refine LP3_i (P := fun M a0 a1 o => X Ll i12_longest 33 [(0, vr a0), (1, vi a1)] [] M o) (fun _ _ _ => X_none) (fun rc ih M a0 a1 => ?_) FU
  unfold f12_longest_b33_body
  refine X_iloadn 1 d33 rfl ?_
  refine X_aloadn 0 d34 rfl ?_
  refine X_getI d35 fg_x12_255 ?_
  refine X_icmp_gt (t := 177) d38 rfl (fun h38 => ?_) (fun h38 => ?_)
  · refine X_aloadn 0 d177 rfl ?_
    refine X_getR d178 fg_x12_85 ?_
    refine X_iconst k_i_5 d181 ?_
    refine X_aloadn 0 d182 rfl ?_
    refine X_getI d183 fg_x12_255 ?_
    refine X_imul d186 ?_
    refine X_aloadn 0 d187 rfl ?_
    refine X_getI d188 fg_x12_252 ?_
    refine X_iadd d191 ?_
    refine X_laload d192 ?_
    exact X_lreturn d193 rfl rfl
  · refine X_iconst k_i_0 d41 ?_
    refine X_istoren (lv' := [(2, vi (0 : Int32)), (0, vr a0), (1, vi a1)]) d42 (by decide) rfl ?_
    refine X_sub [1, 2, 0] rfl ?_
    exact (T12_longest_b43 ih) M a0 a1 (0 : Int32)

theorem dd12_longest : AllD (ib i12_longest) [(0, .aload_n 0, 1), (1, .iconst 0, 1), (2, .putfield 113, 3), (5, .aload_n 0, 1), (6, .getfield 236, 3), (9, .ifCond .ne 7, 3), (12, .ldc2_w 359, 3), (15, .lreturn, 1), (16, .aload_n 0, 1), (17, .invokevirtual 392, 3), (20, .ifCond .eq 7, 3), (23, .ldc2_w 116, 3), (26, .lreturn, 1), (27, .aload_n 0, 1), (28, .invokevirtual 404, 3), (31, .iconst 0, 1), (32, .istore_n 1, 1)] := allD_of (by decide +kernel)
def f12_longest (M : MM) (a0 : Nat) : Option (Int64 × MM) :=
  aO M a0 12 <|
  bM (sI M a0 0 (0 : Int32)) fun M2 =>
  aO M2 a0 12 <|
  if (mI M2 a0 19) = 0 then
    some ((-2 : Int64), M2)
  else
    aO M2 a0 12 <|
    cI (f12_isEndless M2 a0) fun r17 M17 =>
    if r17 = 0 then
      aO M17 a0 12 <|
      cV (f12_layMost M17 a0) fun M28 =>
      f12_longest_b33 M28 a0 (0 : Int32)
    else
      some ((-1 : Int64), M17)
set_option maxRecDepth 4000 in
theorem T12_longest (M : MM) (a0 : Nat) : ∀ q, f12_longest M a0 = some q → Run i12_longest [vr a0] M (Ll q) := by
  obtain ⟨d0, d1, d2, d5, d6, d9, d12, d15, d16, d17, d20, d23, d26, d27, d28, d31, d32, -⟩ := dd12_longest
  refine Run_of_X (by decide) (Nat.le_of_ble_eq_true rfl) ?_
  show X Ll i12_longest 0 [(0, vr a0)] [] M _
  unfold f12_longest
  refine X_aloadn 0 d0 rfl ?_
  refine X_iconst k_i_0 d1 ?_
  refine X_putI d2 fp_x12_113 ?_
  refine X_bM fun M2 _ => ?_
  refine X_aloadn 0 d5 rfl ?_
  refine X_getI d6 fg_x12_236 ?_
  refine X_if_ne (t := 16) d9 rfl (fun h9 => ?_) (fun h9 => ?_)
  · refine X_ldc2 kc_x12_359 d12 ?_
    exact X_lreturn d15 rfl rfl
  · refine X_aloadn 0 d16 rfl ?_
    refine X_cVi (as := []) d17 cv_x12_392 ⟨by decide, by decide⟩ rfl (Nat.le_of_ble_eq_true rfl) (T12_isEndless M2 a0) (fun r17 M17 _ => ?_)
    refine X_if_eq (t := 27) d20 rfl (fun h20 => ?_) (fun h20 => ?_)
    · refine X_aloadn 0 d27 rfl ?_
      refine X_cVv (as := []) d28 cv_x12_404 ⟨by decide, by decide⟩ rfl (Nat.le_of_ble_eq_true rfl) (T12_layMost M17 a0) (fun M28 _ => ?_)
      refine X_iconst k_i_0 d31 ?_
      refine X_istoren (lv' := [(1, vi (0 : Int32)), (0, vr a0)]) d32 (by decide) rfl ?_
      refine X_sub [1, 0] rfl ?_
      exact T12_longest_b33 M28 a0 (0 : Int32)
    · refine X_ldc2 kc_x12_116 d23 ?_
      exact X_lreturn d26 rfl rfl

theorem dd12_machine : AllD (ib i12_machine) [(0, .aload_n 0, 1), (1, .iconst 0, 1), (2, .putfield 113, 3), (5, .aload_n 0, 1), (6, .iload_n 1, 1), (7, .invokevirtual 350, 3), (10, .ifCond .ne 5, 3), (13, .iconst (-1), 1), (14, .ireturn, 1), (15, .aload_n 0, 1), (16, .iload_n 1, 1), (17, .invokevirtual 437, 3), (20, .aload_n 0, 1), (21, .getfield 428, 3), (24, .ireturn, 1)] := allD_of (by decide +kernel)
def f12_machine (M : MM) (a0 : Nat) (a1 : Int32) : Option (Int32 × MM) :=
  aO M a0 12 <|
  bM (sI M a0 0 (0 : Int32)) fun M2 =>
  aO M2 a0 12 <|
  cI (f12_isState M2 a0 a1) fun r7 M7 =>
  if r7 = 0 then
    some ((-1 : Int32), M7)
  else
    aO M7 a0 12 <|
    cV (f12_layMachine M7 a0 a1) fun M17 =>
    aO M17 a0 12 <|
    some (mI M17 a0 52, M17)
set_option maxRecDepth 4000 in
theorem T12_machine (M : MM) (a0 : Nat) (a1 : Int32) : ∀ q, f12_machine M a0 a1 = some q → Run i12_machine [vr a0, vi a1] M (Li q) := by
  obtain ⟨d0, d1, d2, d5, d6, d7, d10, d13, d14, d15, d16, d17, d20, d21, d24, -⟩ := dd12_machine
  refine Run_of_X (by decide) (Nat.le_of_ble_eq_true rfl) ?_
  show X Li i12_machine 0 [(0, vr a0), (1, vi a1)] [] M _
  unfold f12_machine
  refine X_aloadn 0 d0 rfl ?_
  refine X_iconst k_i_0 d1 ?_
  refine X_putI d2 fp_x12_113 ?_
  refine X_bM fun M2 _ => ?_
  refine X_aloadn 0 d5 rfl ?_
  refine X_iloadn 1 d6 rfl ?_
  refine X_cVi (as := [vi a1]) d7 cv_x12_350 ⟨by decide, by decide⟩ rfl (Nat.le_of_ble_eq_true rfl) (T12_isState M2 a0 a1) (fun r7 M7 _ => ?_)
  refine X_if_ne (t := 15) d10 rfl (fun h10 => ?_) (fun h10 => ?_)
  · refine X_iconst k_i_m1 d13 ?_
    exact X_ireturn d14 rfl rfl
  · refine X_aloadn 0 d15 rfl ?_
    refine X_iloadn 1 d16 rfl ?_
    refine X_cVv (as := [vi a1]) d17 cv_x12_437 ⟨by decide, by decide⟩ rfl (Nat.le_of_ble_eq_true rfl) (T12_layMachine M7 a0 a1) (fun M17 _ => ?_)
    refine X_aloadn 0 d20 rfl ?_
    refine X_getI d21 fg_x12_428 ?_
    exact X_ireturn d24 rfl rfl

theorem dd12_matters : AllD (ib i12_matters) [(0, .aload_n 0, 1), (1, .iconst 0, 1), (2, .putfield 113, 3), (5, .aload_n 0, 1), (6, .invokevirtual 342, 3), (9, .lstore_n 2, 1), (10, .lload_n 2, 1), (11, .lconst 0, 1), (12, .lcmp, 1), (13, .ifCond .lt 22, 3), (16, .aload_n 0, 1), (17, .iload_n 1, 1), (18, .invokevirtual 249, 3), (21, .ifCond .eq 14, 3), (24, .aload_n 0, 1), (25, .getfield 131, 3), (28, .iload_n 1, 1), (29, .invokestatic 134, 3), (32, .ifCond .eq 7, 3), (35, .ldc2_w 359, 3), (38, .lreturn, 1), (39, .aload_n 0, 1), (40, .dup, 1), (41, .getfield 131, 3), (44, .iconst 1, 1), (45, .iload_n 1, 1), (46, .ishl, 1), (47, .ixor, 1), (48, .putfield 131, 3), (51, .aload_n 0, 1), (52, .aload_n 0, 1), (53, .getfield 54, 3), (56, .invokevirtual 312, 3), (59, .aload_n 0, 1), (60, .aload_n 0, 1), (61, .getfield 54, 3), (64, .invokevirtual 329, 3), (67, .lstore 4, 2), (69, .aload_n 0, 1), (70, .dup, 1), (71, .getfield 131, 3), (74, .iconst 1, 1), (75, .iload_n 1, 1), (76, .ishl, 1), (77, .ixor, 1), (78, .putfield 131, 3), (81, .lload 4, 2), (83, .lconst 0, 1), (84, .lcmp, 1), (85, .ifCond .ge 9, 3), (88, .ldc2_w 116, 3), (91, .goto 7, 3), (94, .lload 4, 2), (96, .lload_n 2, 1), (97, .lsub, 1), (98, .lreturn, 1)] := allD_of (by decide +kernel)
def f12_matters (M : MM) (a0 : Nat) (a1 : Int32) : Option (Int64 × MM) :=
  aO M a0 12 <|
  bM (sI M a0 0 (0 : Int32)) fun M2 =>
  aO M2 a0 12 <|
  cJ (f12_cost M2 a0) fun r6 M6 =>
  if r6 < (0 : Int64) then
    some ((-2 : Int64), M6)
  else
    aO M6 a0 12 <|
    cI (f12_isRule M6 a0 a1) fun r18 M18 =>
    if r18 = 0 then
      some ((-2 : Int64), M18)
    else
      aO M18 a0 12 <|
      cI (f12_isOf M18 (mI M18 a0 5) a1) fun r29 M29 =>
      if r29 = 0 then
        aO M29 a0 12 <|
        aO M29 a0 12 <|
        bM (sI M29 a0 5 ((mI M29 a0 5) ^^^ ((1 : Int32) <<< (a1 &&& 31)))) fun M48 =>
        aO M48 a0 12 <|
        aO M48 a0 12 <|
        cV (f12_lay M48 a0 (mR M48 a0 29)) fun M56 =>
        aO M56 a0 12 <|
        aO M56 a0 12 <|
        cJ (f12_costNow M56 a0 (mR M56 a0 29)) fun r64 M64 =>
        aO M64 a0 12 <|
        aO M64 a0 12 <|
        bM (sI M64 a0 5 ((mI M64 a0 5) ^^^ ((1 : Int32) <<< (a1 &&& 31)))) fun M78 =>
        if (0 : Int64) ≤ r64 then
          some (r64 - r6, M78)
        else
          some ((-1 : Int64), M78)
      else
        some ((-2 : Int64), M29)
set_option maxRecDepth 4000 in
theorem T12_matters (M : MM) (a0 : Nat) (a1 : Int32) : ∀ q, f12_matters M a0 a1 = some q → Run i12_matters [vr a0, vi a1] M (Ll q) := by
  obtain ⟨d0, d1, d2, d5, d6, d9, d10, d11, d12, d13, d16, d17, d18, d21, d24, d25, d28, d29, d32, d35, d38, d39, d40, d41, d44, d45, d46, d47, d48, d51, d52, d53, d56, d59, d60, d61, d64, d67, d69, d70, d71, d74, d75, d76, d77, d78, d81, d83, d84, d85, d88, d91, d94, d96, d97, d98, -⟩ := dd12_matters
  refine Run_of_X (by decide) (Nat.le_of_ble_eq_true rfl) ?_
  show X Ll i12_matters 0 [(0, vr a0), (1, vi a1)] [] M _
  unfold f12_matters
  refine X_aloadn 0 d0 rfl ?_
  refine X_iconst k_i_0 d1 ?_
  refine X_putI d2 fp_x12_113 ?_
  refine X_bM fun M2 _ => ?_
  refine X_aloadn 0 d5 rfl ?_
  refine X_cVl (as := []) d6 cv_x12_342 ⟨by decide, by decide⟩ rfl (Nat.le_of_ble_eq_true rfl) (T12_cost M2 a0) (fun r6 M6 _ => ?_)
  refine X_lstoren (lv' := [(2, vl r6), (0, vr a0), (1, vi a1)]) d9 (by decide) rfl ?_
  refine X_lloadn 0 d10 rfl ?_
  refine X_lconst k_l_0 d11 ?_
  refine X_lif_lt (t := 35) d12 d13 rfl (fun h12 => ?_) (fun h12 => ?_)
  · refine X_ldc2 kc_x12_359 d35 ?_
    exact X_lreturn d38 rfl rfl
  · refine X_aloadn 1 d16 rfl ?_
    refine X_iloadn 2 d17 rfl ?_
    refine X_cVi (as := [vi a1]) d18 cv_x12_249 ⟨by decide, by decide⟩ rfl (Nat.le_of_ble_eq_true rfl) (T12_isRule M6 a0 a1) (fun r18 M18 _ => ?_)
    refine X_if_eq (t := 35) d21 rfl (fun h21 => ?_) (fun h21 => ?_)
    · refine X_ldc2 kc_x12_359 d35 ?_
      exact X_lreturn d38 rfl rfl
    · refine X_aloadn 1 d24 rfl ?_
      refine X_getI d25 fg_x12_131 ?_
      refine X_iloadn 2 d28 rfl ?_
      refine X_cSi (as := [vi (mI M18 a0 5), vi a1]) d29 cs_x12_134 ⟨by decide, by decide⟩ rfl (Nat.le_of_ble_eq_true rfl) (T12_isOf M18 (mI M18 a0 5) a1) (fun r29 M29 _ => ?_)
      refine X_if_eq (t := 39) d32 rfl (fun h32 => ?_) (fun h32 => ?_)
      · refine X_aloadn 1 d39 rfl ?_
        refine X_dupr d40 ?_
        refine X_getI d41 fg_x12_131 ?_
        refine X_iconst k_i_1 d44 ?_
        refine X_iloadn 2 d45 rfl ?_
        refine X_ishl d46 ?_
        refine X_ixor d47 ?_
        refine X_putI d48 fp_x12_131 ?_
        refine X_bM fun M48 _ => ?_
        refine X_aloadn 1 d51 rfl ?_
        refine X_aloadn 1 d52 rfl ?_
        refine X_getR d53 fg_x12_54 ?_
        refine X_cVv (as := [vr (mR M48 a0 29)]) d56 cv_x12_312 ⟨by decide, by decide⟩ rfl (Nat.le_of_ble_eq_true rfl) (T12_lay M48 a0 (mR M48 a0 29)) (fun M56 _ => ?_)
        refine X_aloadn 1 d59 rfl ?_
        refine X_aloadn 1 d60 rfl ?_
        refine X_getR d61 fg_x12_54 ?_
        refine X_cVl (as := [vr (mR M56 a0 29)]) d64 cv_x12_329 ⟨by decide, by decide⟩ rfl (Nat.le_of_ble_eq_true rfl) (T12_costNow M56 a0 (mR M56 a0 29)) (fun r64 M64 _ => ?_)
        refine X_lstore (lv' := [(4, vl r64), (2, vl r6), (0, vr a0), (1, vi a1)]) d67 (by decide) rfl ?_
        refine X_aloadn 2 d69 rfl ?_
        refine X_dupr d70 ?_
        refine X_getI d71 fg_x12_131 ?_
        refine X_iconst k_i_1 d74 ?_
        refine X_iloadn 3 d75 rfl ?_
        refine X_ishl d76 ?_
        refine X_ixor d77 ?_
        refine X_putI d78 fp_x12_131 ?_
        refine X_bM fun M78 _ => ?_
        refine X_lload 0 d81 rfl ?_
        refine X_lconst k_l_0 d83 ?_
        refine X_lif_ge (t := 94) d84 d85 rfl (fun h84 => ?_) (fun h84 => ?_)
        · refine X_lload 0 d94 rfl ?_
          refine X_lloadn 1 d96 rfl ?_
          refine X_lsub d97 ?_
          exact X_lreturn d98 rfl rfl
        · refine X_ldc2 kc_x12_116 d88 ?_
          refine X_goto (t := 98) d91 rfl ?_
          exact X_lreturn d98 rfl rfl
      · refine X_ldc2 kc_x12_359 d35 ?_
        exact X_lreturn d38 rfl rfl

