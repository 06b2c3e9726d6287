/-! printed by program: methods as functions, and that the bytecode does what they tell -/
theorem dd7_isAtGoal_b71 : AllD (ib i7_isAtGoal) [(71, .iload 5, 2), (73, .iload_n 3, 1), (74, .if_icmp .ge 29, 3), (77, .aload_n 2, 1), (78, .iload 5, 2), (80, .invokevirtual 84, 3), (83, .aload_n 0, 1), (84, .iload_n 1, 1), (85, .iconst 3, 1), (86, .iload 5, 2), (88, .iadd, 1), (89, .invokevirtual 87, 3), (92, .if_icmp .eq 5, 3), (95, .iconst 0, 1), (96, .ireturn, 1), (97, .iinc 5 1, 3), (100, .goto (-29), 3), (103, .iconst 1, 1), (104, .ireturn, 1)] := allD_of (by decide +kernel)
def f7_isAtGoal_b71_body (rc : MM → Nat → Int32 → Nat → Int32 → Int32 → Option (Int32 × MM)) (M : MM) (a0 : Nat) (a1 : Int32) (a2 : Nat) (a3 : Int32) (a5 : Int32) : Option (Int32 × MM) :=
  if a3 ≤ a5 then
    some ((1 : Int32), M)
  else
    aO M a2 6 <|
    cI (f6_fromTop M a2 a5) fun r80 M80 =>
    aO M80 a0 7 <|
    cI (f7_ofGoal M80 a0 a1 ((3 : Int32) + a5)) fun r89 M89 =>
    if r80 = r89 then
      rc M89 a0 a1 a2 a3 (a5 + (1 : Int32))
    else
      some ((0 : Int32), M89)
def f7_isAtGoal_b71 : MM → Nat → Int32 → Nat → Int32 → Int32 → Option (Int32 × MM) := LP6 (f7_isAtGoal_b71_body) FU
set_option maxRecDepth 4000 in
theorem T7_isAtGoal_b71 : ∀ (M : MM) (a0 : Nat) (a1 : Int32) (a2 : Nat) (a3 : Int32) (a5 : Int32), X Li i7_isAtGoal 71 [(0, vr a0), (1, vi a1), (2, vr a2), (3, vi a3), (5, vi a5)] [] M (f7_isAtGoal_b71 M a0 a1 a2 a3 a5) := by
  obtain ⟨d71, d73, d74, d77, d78, d80, d83, d84, d85, d86, d88, d89, d92, d95, d96, d97, d100, d103, d104, -⟩ := dd7_isAtGoal_b71
  refine LP6_i (P := fun M a0 a1 a2 a3 a5 o => X Li i7_isAtGoal 71 [(0, vr a0), (1, vi a1), (2, vr a2), (3, vi a3), (5, vi a5)] [] M o) (fun _ _ _ _ _ _ => X_none) (fun rc ih M a0 a1 a2 a3 a5 => ?_) FU
  unfold f7_isAtGoal_b71_body
  refine X_iload 4 d71 rfl ?_
  refine X_iloadn 3 d73 rfl ?_
  refine X_icmp_ge (t := 103) d74 rfl (fun h74 => ?_) (fun h74 => ?_)
  · refine X_iconst k_i_1 d103 ?_
    exact X_zreturnc d104 rfl (by decide) rfl
  · refine X_aloadn 2 d77 rfl ?_
    refine X_iload 4 d78 rfl ?_
    refine X_cVi (as := [vi a5]) d80 cv_x7_84 ⟨by decide, by decide⟩ rfl (Nat.le_of_ble_eq_true rfl) (T6_fromTop M a2 a5) (fun r80 M80 _ => ?_)
    refine X_aloadn 0 d83 rfl ?_
    refine X_iloadn 1 d84 rfl ?_
    refine X_iconst k_i_3 d85 ?_
    refine X_iload 4 d86 rfl ?_
    refine X_iadd d88 ?_
    refine X_cVi (as := [vi a1, vi ((3 : Int32) + a5)]) d89 cv_x7_87 ⟨by decide, by decide⟩ rfl (Nat.le_of_ble_eq_true rfl) (T7_ofGoal M80 a0 a1 ((3 : Int32) + a5)) (fun r89 M89 _ => ?_)
    refine X_icmp_eq (t := 97) d92 rfl (fun h92 => ?_) (fun h92 => ?_)
    · refine X_inc (lv' := [(5, vi (a5 + (1 : Int32))), (0, vr a0), (1, vi a1), (2, vr a2), (3, vi a3)]) 4 d97 k_i_1 rfl (by decide) rfl ?_
      refine X_goto (t := 71) d100 rfl ?_
      refine X_sub [1, 2, 3, 4, 0] rfl ?_
      exact ih M89 a0 a1 a2 a3 (a5 + (1 : Int32))
    · refine X_iconst k_i_0 d95 ?_
      exact X_zreturnc d96 rfl (by decide) rfl

theorem dd7_isAtGoal_b46 : AllD (ib i7_isAtGoal) [(46, .istore 4, 2), (48, .iload 4, 2), (50, .ifCond .eq 16, 3), (53, .aload_n 2, 1), (54, .getfield 81, 3), (57, .aload_n 0, 1), (58, .iload_n 1, 1), (59, .iconst 0, 1), (60, .invokevirtual 87, 3), (63, .if_icmp .eq 5, 3), (66, .iconst 0, 1), (67, .ireturn, 1), (68, .iconst 0, 1), (69, .istore 5, 2)] := allD_of (by decide +kernel)
def f7_isAtGoal_b46 (M : MM) (a0 : Nat) (a1 : Int32) (a2 : Nat) (a3 : Int32) (s0 : Int32) : Option (Int32 × MM) :=
  if s0 = 0 then
    some ((0 : Int32), M)
  else
    aO M a2 6 <|
    aO M a0 7 <|
    cI (f7_ofGoal M a0 a1 (0 : Int32)) fun r60 M60 =>
    if (mI M a2 2) = r60 then
      f7_isAtGoal_b71 M60 a0 a1 a2 a3 (0 : Int32)
    else
      some ((0 : Int32), M60)
set_option maxRecDepth 4000 in
theorem T7_isAtGoal_b46 : ∀ (M : MM) (a0 : Nat) (a1 : Int32) (a2 : Nat) (a3 : Int32) (s0 : Int32), X Li i7_isAtGoal 46 [(0, vr a0), (1, vi a1), (2, vr a2), (3, vi a3)] [vi s0] M (f7_isAtGoal_b46 M a0 a1 a2 a3 s0) := by
  obtain ⟨d46, d48, d50, d53, d54, d57, d58, d59, d60, d63, d66, d67, d68, d69, -⟩ := dd7_isAtGoal_b46
  intro M a0 a1 a2 a3 s0
  unfold f7_isAtGoal_b46
  refine X_istore (lv' := [(4, vi s0), (0, vr a0), (1, vi a1), (2, vr a2), (3, vi a3)]) d46 (by decide) rfl ?_
  refine X_iload 0 d48 rfl ?_
  refine X_if_eq (t := 66) d50 rfl (fun h50 => ?_) (fun h50 => ?_)
  · refine X_iconst k_i_0 d66 ?_
    exact X_zreturnc d67 rfl (by decide) rfl
  · refine X_aloadn 3 d53 rfl ?_
    refine X_getI d54 fg_x7_81 ?_
    refine X_aloadn 1 d57 rfl ?_
    refine X_iloadn 2 d58 rfl ?_
    refine X_iconst k_i_0 d59 ?_
    refine X_cVi (as := [vi a1, vi (0 : Int32)]) d60 cv_x7_87 ⟨by decide, by decide⟩ rfl (Nat.le_of_ble_eq_true rfl) (T7_ofGoal M a0 a1 (0 : Int32)) (fun r60 M60 _ => ?_)
    refine X_icmp_eq (t := 68) d63 rfl (fun h63 => ?_) (fun h63 => ?_)
    · refine X_iconst k_i_0 d68 ?_
      refine X_istore (lv' := [(5, vi (0 : Int32)), (4, vi s0), (0, vr a0), (1, vi a1), (2, vr a2), (3, vi a3)]) d69 (by decide) rfl ?_
      refine X_sub [2, 3, 4, 5, 0] rfl ?_
      exact T7_isAtGoal_b71 M60 a0 a1 a2 a3 (0 : Int32)
    · refine X_iconst k_i_0 d66 ?_
      exact X_zreturnc d67 rfl (by decide) rfl

theorem dd7_isAtGoal : AllD (ib i7_isAtGoal) [(0, .aload_n 0, 1), (1, .iload_n 1, 1), (2, .iconst 1, 1), (3, .invokevirtual 87, 3), (6, .istore_n 3, 1), (7, .aload_n 0, 1), (8, .iload_n 1, 1), (9, .iconst 2, 1), (10, .invokevirtual 87, 3), (13, .iconst 1, 1), (14, .if_icmp .ne 19, 3), (17, .aload_n 2, 1), (18, .getfield 76, 3), (21, .iload_n 3, 1), (22, .if_icmp .lt 7, 3), (25, .iconst 1, 1), (26, .goto 20, 3), (29, .iconst 0, 1), (30, .goto 16, 3), (33, .aload_n 2, 1), (34, .getfield 76, 3), (37, .iload_n 3, 1), (38, .if_icmp .ne 7, 3), (41, .iconst 1, 1), (42, .goto 4, 3), (45, .iconst 0, 1)] := allD_of (by decide +kernel)
def f7_isAtGoal (M : MM) (a0 : Nat) (a1 : Int32) (a2 : Nat) : Option (Int32 × MM) :=
  aO M a0 7 <|
  cI (f7_ofGoal M a0 a1 (1 : Int32)) fun r3 M3 =>
  aO M3 a0 7 <|
  cI (f7_ofGoal M3 a0 a1 (2 : Int32)) fun r10 M10 =>
  if r10 = (1 : Int32) then
    aO M10 a2 6 <|
    if (mI M10 a2 3) < r3 then
      f7_isAtGoal_b46 M10 a0 a1 a2 r3 (0 : Int32)
    else
      f7_isAtGoal_b46 M10 a0 a1 a2 r3 (1 : Int32)
  else
    aO M10 a2 6 <|
    if (mI M10 a2 3) = r3 then
      f7_isAtGoal_b46 M10 a0 a1 a2 r3 (1 : Int32)
    else
      f7_isAtGoal_b46 M10 a0 a1 a2 r3 (0 : Int32)
set_option maxRecDepth 4000 in
theorem T7_isAtGoal (M : MM) (a0 : Nat) (a1 : Int32) (a2 : Nat) : ∀ q, f7_isAtGoal M a0 a1 a2 = some q → Run i7_isAtGoal [vr a0, vi a1, vr a2] M (Li q) := by
  obtain ⟨d0, d1, d2, d3, d6, d7, d8, d9, d10, d13, d14, d17, d18, d21, d22, d25, d26, d29, d30, d33, d34, d37, d38, d41, d42, d45, -⟩ := dd7_isAtGoal
  refine Run_of_X (by decide) (Nat.le_of_ble_eq_true rfl) ?_
  show X Li i7_isAtGoal 0 [(0, vr a0), (1, vi a1), (2, vr a2)] [] M _
  unfold f7_isAtGoal
  refine X_aloadn 0 d0 rfl ?_
  refine X_iloadn 1 d1 rfl ?_
  refine X_iconst k_i_1 d2 ?_
  refine X_cVi (as := [vi a1, vi (1 : Int32)]) d3 cv_x7_87 ⟨by decide, by decide⟩ rfl (Nat.le_of_ble_eq_true rfl) (T7_ofGoal M a0 a1 (1 : Int32)) (fun r3 M3 _ => ?_)
  refine X_istoren (lv' := [(3, vi r3), (0, vr a0), (1, vi a1), (2, vr a2)]) d6 (by decide) rfl ?_
  refine X_aloadn 1 d7 rfl ?_
  refine X_iloadn 2 d8 rfl ?_
  refine X_iconst k_i_2 d9 ?_
  refine X_cVi (as := [vi a1, vi (2 : Int32)]) d10 cv_x7_87 ⟨by decide, by decide⟩ rfl (Nat.le_of_ble_eq_true rfl) (T7_ofGoal M3 a0 a1 (2 : Int32)) (fun r10 M10 _ => ?_)
  refine X_iconst k_i_1 d13 ?_
  refine X_icmp_ne (t := 33) d14 rfl (fun h14 => ?_) (fun h14 => ?_)
  · refine X_aloadn 3 d17 rfl ?_
    refine X_getI d18 fg_x7_76 ?_
    refine X_iloadn 0 d21 rfl ?_
    refine X_icmp_lt (t := 29) d22 rfl (fun h22 => ?_) (fun h22 => ?_)
    · refine X_iconst k_i_0 d29 ?_
      refine X_goto (t := 46) d30 rfl ?_
      refine X_sub [1, 2, 3, 0] rfl ?_
      exact T7_isAtGoal_b46 M10 a0 a1 a2 r3 (0 : Int32)
    · refine X_iconst k_i_1 d25 ?_
      refine X_goto (t := 46) d26 rfl ?_
      refine X_sub [1, 2, 3, 0] rfl ?_
      exact T7_isAtGoal_b46 M10 a0 a1 a2 r3 (1 : Int32)
  · refine X_aloadn 3 d33 rfl ?_
    refine X_getI d34 fg_x7_76 ?_
    refine X_iloadn 0 d37 rfl ?_
    refine X_icmp_ne (t := 45) d38 rfl (fun h38 => ?_) (fun h38 => ?_)
    · refine X_iconst k_i_1 d41 ?_
      refine X_goto (t := 46) d42 rfl ?_
      refine X_sub [1, 2, 3, 0] rfl ?_
      exact T7_isAtGoal_b46 M10 a0 a1 a2 r3 (1 : Int32)
    · refine X_iconst k_i_0 d45 ?_
      refine X_sub [1, 2, 3, 0] rfl ?_
      exact T7_isAtGoal_b46 M10 a0 a1 a2 r3 (0 : Int32)

theorem dd7_setGoal : AllD (ib i7_setGoal) [(0, .aload_n 0, 1), (1, .getfield 30, 3), (4, .iload_n 1, 1), (5, .bipush 6, 2), (7, .imul, 1), (8, .iload_n 2, 1), (9, .iadd, 1), (10, .iload_n 3, 1), (11, .invokevirtual 54, 3), (14, .return_, 1)] := allD_of (by decide +kernel)
def f7_setGoal (M : MM) (a0 : Nat) (a1 : Int32) (a2 : Int32) (a3 : Int32) : Option MM :=
  aO M a0 7 <|
  aO M (mR M a0 3) 3 <|
  cV (f3_set M (mR M a0 3) ((a1 * (6 : Int32)) + a2) a3) fun M11 =>
  some M11
set_option maxRecDepth 4000 in
theorem T7_setGoal (M : MM) (a0 : Nat) (a1 : Int32) (a2 : Int32) (a3 : Int32) : ∀ q, f7_setGoal M a0 a1 a2 a3 = some q → Run i7_setGoal [vr a0, vi a1, vi a2, vi a3] M (Lv q) := by
  obtain ⟨d0, d1, d4, d5, d7, d8, d9, d10, d11, d14, -⟩ := dd7_setGoal
  refine Run_of_X (by decide) (Nat.le_of_ble_eq_true rfl) ?_
  show X Lv i7_setGoal 0 [(0, vr a0), (1, vi a1), (2, vi a2), (3, vi a3)] [] M _
  unfold f7_setGoal
  refine X_aloadn 0 d0 rfl ?_
  refine X_getR d1 fg_x7_30 ?_
  refine X_iloadn 1 d4 rfl ?_
  refine X_bipush k_b_6 d5 ?_
  refine X_imul d7 ?_
  refine X_iloadn 2 d8 rfl ?_
  refine X_iadd d9 ?_
  refine X_iloadn 3 d10 rfl ?_
  refine X_cVv (as := [vi ((a1 * (6 : Int32)) + a2), vi a3]) d11 cv_x7_54 ⟨by decide, by decide⟩ rfl (Nat.le_of_ble_eq_true rfl) (T3_set M (mR M a0 3) ((a1 * (6 : Int32)) + a2) a3) (fun M11 _ => ?_)
  exact X_vreturn d14 rfl rfl

theorem dd7_setRule : AllD (ib i7_setRule) [(0, .aload_n 0, 1), (1, .getfield 26, 3), (4, .iload_n 1, 1), (5, .bipush 7, 2), (7, .imul, 1), (8, .iload_n 2, 1), (9, .iadd, 1), (10, .iload_n 3, 1), (11, .invokevirtual 54, 3), (14, .return_, 1)] := allD_of (by decide +kernel)
def f7_setRule (M : MM) (a0 : Nat) (a1 : Int32) (a2 : Int32) (a3 : Int32) : Option MM :=
  aO M a0 7 <|
  aO M (mR M a0 2) 3 <|
  cV (f3_set M (mR M a0 2) ((a1 * (7 : Int32)) + a2) a3) fun M11 =>
  some M11
set_option maxRecDepth 4000 in
theorem T7_setRule (M : MM) (a0 : Nat) (a1 : Int32) (a2 : Int32) (a3 : Int32) : ∀ q, f7_setRule M a0 a1 a2 a3 = some q → Run i7_setRule [vr a0, vi a1, vi a2, vi a3] M (Lv q) := by
  obtain ⟨d0, d1, d4, d5, d7, d8, d9, d10, d11, d14, -⟩ := dd7_setRule
  refine Run_of_X (by decide) (Nat.le_of_ble_eq_true rfl) ?_
  show X Lv i7_setRule 0 [(0, vr a0), (1, vi a1), (2, vi a2), (3, vi a3)] [] M _
  unfold f7_setRule
  refine X_aloadn 0 d0 rfl ?_
  refine X_getR d1 fg_x7_26 ?_
  refine X_iloadn 1 d4 rfl ?_
  refine X_bipush k_b_7 d5 ?_
  refine X_imul d7 ?_
  refine X_iloadn 2 d8 rfl ?_
  refine X_iadd d9 ?_
  refine X_iloadn 3 d10 rfl ?_
  refine X_cVv (as := [vi ((a1 * (7 : Int32)) + a2), vi a3]) d11 cv_x7_54 ⟨by decide, by decide⟩ rfl (Nat.le_of_ble_eq_true rfl) (T3_set M (mR M a0 2) ((a1 * (7 : Int32)) + a2) a3) (fun M11 _ => ?_)
  exact X_vreturn d14 rfl rfl

theorem dd7_signNamed_b2 : AllD (ib i7_signNamed) [(2, .iload_n 3, 1), (3, .aload_n 0, 1), (4, .getfield 37, 3), (7, .if_icmp .ge 24, 3), (10, .aload_n 0, 1), (11, .getfield 20, 3), (14, .iload_n 3, 1), (15, .invokevirtual 50, 3), (18, .lload_n 1, 1), (19, .lcmp, 1), (20, .ifCond .ne 5, 3), (23, .iload_n 3, 1), (24, .ireturn, 1), (25, .iinc 3 1, 3), (28, .goto (-26), 3), (31, .iconst (-1), 1), (32, .ireturn, 1)] := allD_of (by decide +kernel)
def f7_signNamed_b2_body (rc : MM → Nat → Int64 → Int32 → Option (Int32 × MM)) (M : MM) (a0 : Nat) (a1 : Int64) (a3 : Int32) : Option (Int32 × MM) :=
  aO M a0 7 <|
  if (mI M a0 5) ≤ a3 then
    some ((-1 : Int32), M)
  else
    aO M a0 7 <|
    aO M (mR M a0 1) 4 <|
    cJ (f4_get M (mR M a0 1) a3) fun r15 M15 =>
    if r15 = a1 then
      some (a3, M15)
    else
      rc M15 a0 a1 (a3 + (1 : Int32))
def f7_signNamed_b2 : MM → Nat → Int64 → Int32 → Option (Int32 × MM) := LP4 (f7_signNamed_b2_body) FU
set_option maxRecDepth 4000 in
theorem T7_signNamed_b2 : ∀ (M : MM) (a0 : Nat) (a1 : Int64) (a3 : Int32), X Li i7_signNamed 2 [(0, vr a0), (1, vl a1), (3, vi a3)] [] M (f7_signNamed_b2 M a0 a1 a3) := by
  obtain ⟨d2, d3, d4, d7, d10, d11, d14, d15, d18, d19, d20, d23, d24, d25, d28, d31, d32, -⟩ := dd7_signNamed_b2
  refine LP4_i (P := fun M a0 a1 a3 o => X Li i7_signNamed 2 [(0, vr a0), (1, vl a1), (3, vi a3)] [] M o) (fun _ _ _ _ => X_none) (fun rc ih M a0 a1 a3 => ?_) FU
  unfold f7_signNamed_b2_body
  refine X_iloadn 2 d2 rfl ?_
  refine X_aloadn 0 d3 rfl ?_
  refine X_getI d4 fg_x7_37 ?_
  refine X_icmp_ge (t := 31) d7 rfl (fun h7 => ?_) (fun h7 => ?_)
  · refine X_iconst k_i_m1 d31 ?_
    exact X_ireturn d32 rfl rfl
  · refine X_aloadn 0 d10 rfl ?_
    refine X_getR d11 fg_x7_20 ?_
    refine X_iloadn 2 d14 rfl ?_
    refine X_cVl (as := [vi a3]) d15 cv_x7_50 ⟨by decide, by decide⟩ rfl (Nat.le_of_ble_eq_true rfl) (T4_get M (mR M a0 1) a3) (fun r15 M15 _ => ?_)
    refine X_lloadn 1 d18 rfl ?_
    refine X_lif_ne (t := 25) d19 d20 rfl (fun h19 => ?_) (fun h19 => ?_)
    · refine X_iloadn 2 d23 rfl ?_
      exact X_ireturn d24 rfl rfl
    · refine X_inc (lv' := [(3, vi (a3 + (1 : Int32))), (0, vr a0), (1, vl a1)]) 2 d25 k_i_1 rfl (by decide) rfl ?_
      refine X_goto (t := 2) d28 rfl ?_
      refine X_sub [1, 2, 0] rfl ?_
      exact ih M15 a0 a1 (a3 + (1 : Int32))

theorem dd7_signNamed : AllD (ib i7_signNamed) [(0, .iconst 0, 1), (1, .istore_n 3, 1)] := allD_of (by decide +kernel)
def f7_signNamed (M : MM) (a0 : Nat) (a1 : Int64) : Option (Int32 × MM) :=
  f7_signNamed_b2 M a0 a1 (0 : Int32)
set_option maxRecDepth 4000 in
theorem T7_signNamed (M : MM) (a0 : Nat) (a1 : Int64) : ∀ q, f7_signNamed M a0 a1 = some q → Run i7_signNamed [vr a0, vl a1] M (Li q) := by
  obtain ⟨d0, d1, -⟩ := dd7_signNamed
  refine Run_of_X (by decide) (Nat.le_of_ble_eq_true rfl) ?_
  show X Li i7_signNamed 0 [(0, vr a0), (1, vl a1)] [] M _
  unfold f7_signNamed
  refine X_iconst k_i_0 d0 ?_
  refine X_istoren (lv' := [(3, vi (0 : Int32)), (0, vr a0), (1, vl a1)]) d1 (by decide) rfl ?_
  refine X_sub [1, 2, 0] rfl ?_
  exact T7_signNamed_b2 M a0 a1 (0 : Int32)

theorem dd7_stateNamed_b2 : AllD (ib i7_stateNamed) [(2, .iload_n 3, 1), (3, .aload_n 0, 1), (4, .getfield 33, 3), (7, .if_icmp .ge 24, 3), (10, .aload_n 0, 1), (11, .getfield 14, 3), (14, .iload_n 3, 1), (15, .invokevirtual 50, 3), (18, .lload_n 1, 1), (19, .lcmp, 1), (20, .ifCond .ne 5, 3), (23, .iload_n 3, 1), (24, .ireturn, 1), (25, .iinc 3 1, 3), (28, .goto (-26), 3), (31, .iconst (-1), 1), (32, .ireturn, 1)] := allD_of (by decide +kernel)
def f7_stateNamed_b2_body (rc : MM → Nat → Int64 → Int32 → Option (Int32 × MM)) (M : MM) (a0 : Nat) (a1 : Int64) (a3 : Int32) : Option (Int32 × MM) :=
  aO M a0 7 <|
  if (mI M a0 4) ≤ a3 then
    some ((-1 : Int32), M)
  else
    aO M a0 7 <|
    aO M (mR M a0 0) 4 <|
    cJ (f4_get M (mR M a0 0) a3) fun r15 M15 =>
    if r15 = a1 then
      some (a3, M15)
    else
      rc M15 a0 a1 (a3 + (1 : Int32))
def f7_stateNamed_b2 : MM → Nat → Int64 → Int32 → Option (Int32 × MM) := LP4 (f7_stateNamed_b2_body) FU
set_option maxRecDepth 4000 in
theorem T7_stateNamed_b2 : ∀ (M : MM) (a0 : Nat) (a1 : Int64) (a3 : Int32), X Li i7_stateNamed 2 [(0, vr a0), (1, vl a1), (3, vi a3)] [] M (f7_stateNamed_b2 M a0 a1 a3) := by
  obtain ⟨d2, d3, d4, d7, d10, d11, d14, d15, d18, d19, d20, d23, d24, d25, d28, d31, d32, -⟩ := dd7_stateNamed_b2
  refine LP4_i (P := fun M a0 a1 a3 o => X Li i7_stateNamed 2 [(0, vr a0), (1, vl a1), (3, vi a3)] [] M o) (fun _ _ _ _ => X_none) (fun rc ih M a0 a1 a3 => ?_) FU
  unfold f7_stateNamed_b2_body
  refine X_iloadn 2 d2 rfl ?_
  refine X_aloadn 0 d3 rfl ?_
  refine X_getI d4 fg_x7_33 ?_
  refine X_icmp_ge (t := 31) d7 rfl (fun h7 => ?_) (fun h7 => ?_)
  · refine X_iconst k_i_m1 d31 ?_
    exact X_ireturn d32 rfl rfl
  · refine X_aloadn 0 d10 rfl ?_
    refine X_getR d11 fg_x7_14 ?_
    refine X_iloadn 2 d14 rfl ?_
    refine X_cVl (as := [vi a3]) d15 cv_x7_50 ⟨by decide, by decide⟩ rfl (Nat.le_of_ble_eq_true rfl) (T4_get M (mR M a0 0) a3) (fun r15 M15 _ => ?_)
    refine X_lloadn 1 d18 rfl ?_
    refine X_lif_ne (t := 25) d19 d20 rfl (fun h19 => ?_) (fun h19 => ?_)
    · refine X_iloadn 2 d23 rfl ?_
      exact X_ireturn d24 rfl rfl
    · refine X_inc (lv' := [(3, vi (a3 + (1 : Int32))), (0, vr a0), (1, vl a1)]) 2 d25 k_i_1 rfl (by decide) rfl ?_
      refine X_goto (t := 2) d28 rfl ?_
      refine X_sub [1, 2, 0] rfl ?_
      exact ih M15 a0 a1 (a3 + (1 : Int32))

theorem dd7_stateNamed : AllD (ib i7_stateNamed) [(0, .iconst 0, 1), (1, .istore_n 3, 1)] := allD_of (by decide +kernel)
def f7_stateNamed (M : MM) (a0 : Nat) (a1 : Int64) : Option (Int32 × MM) :=
  f7_stateNamed_b2 M a0 a1 (0 : Int32)
set_option maxRecDepth 4000 in
theorem T7_stateNamed (M : MM) (a0 : Nat) (a1 : Int64) : ∀ q, f7_stateNamed M a0 a1 = some q → Run i7_stateNamed [vr a0, vl a1] M (Li q) := by
  obtain ⟨d0, d1, -⟩ := dd7_stateNamed
  refine Run_of_X (by decide) (Nat.le_of_ble_eq_true rfl) ?_
  show X Li i7_stateNamed 0 [(0, vr a0), (1, vl a1)] [] M _
  unfold f7_stateNamed
  refine X_iconst k_i_0 d0 ?_
  refine X_istoren (lv' := [(3, vi (0 : Int32)), (0, vr a0), (1, vl a1)]) d1 (by decide) rfl ?_
  refine X_sub [1, 2, 0] rfl ?_
  exact T7_stateNamed_b2 M a0 a1 (0 : Int32)

theorem dd9_byteAt : AllD (ib i9_byteAt) [(0, .iload_n 1, 1), (1, .ifCond .lt 29, 3), (4, .iload_n 1, 1), (5, .aload_n 0, 1), (6, .getfield 19, 3), (9, .if_icmp .ge 21, 3), (12, .iload_n 1, 1), (13, .aload_n 0, 1), (14, .getfield 9, 3), (17, .arraylength, 1), (18, .if_icmp .ge 12, 3), (21, .aload_n 0, 1), (22, .getfield 9, 3), (25, .iload_n 1, 1), (26, .iaload, 1), (27, .goto 4, 3), (30, .iconst (-1), 1), (31, .ireturn, 1)] := allD_of (by decide +kernel)
def f9_byteAt (M : MM) (a0 : Nat) (a1 : Int32) : Option (Int32 × MM) :=
  if a1 < 0 then
    some ((-1 : Int32), M)
  else
    aO M a0 9 <|
    if (mI M a0 2) ≤ a1 then
      some ((-1 : Int32), M)
    else
      aO M a0 9 <|
      aL M (mR M a0 0) 0 <|
      if (nI (mK M (mR M a0 0)).2) ≤ a1 then
        some ((-1 : Int32), M)
      else
        aO M a0 9 <|
        aA M (mR M a0 0) 0 a1 <|
        some (mI M (mR M a0 0) a1.toNatClampNeg, M)
set_option maxRecDepth 4000 in
theorem T9_byteAt (M : MM) (a0 : Nat) (a1 : Int32) : ∀ q, f9_byteAt M a0 a1 = some q → Run i9_byteAt [vr a0, vi a1] M (Li q) := by
  obtain ⟨d0, d1, d4, d5, d6, d9, d12, d13, d14, d17, d18, d21, d22, d25, d26, d27, d30, d31, -⟩ := dd9_byteAt
  refine Run_of_X (by decide) (Nat.le_of_ble_eq_true rfl) ?_
  show X Li i9_byteAt 0 [(0, vr a0), (1, vi a1)] [] M _
  unfold f9_byteAt
  refine X_iloadn 1 d0 rfl ?_
  refine X_if_lt (t := 30) d1 rfl (fun h1 => ?_) (fun h1 => ?_)
  · refine X_iconst k_i_m1 d30 ?_
    exact X_ireturn d31 rfl rfl
  · refine X_iloadn 1 d4 rfl ?_
    refine X_aloadn 0 d5 rfl ?_
    refine X_getI d6 fg_x9_19 ?_
    refine X_icmp_ge (t := 30) d9 rfl (fun h9 => ?_) (fun h9 => ?_)
    · refine X_iconst k_i_m1 d30 ?_
      exact X_ireturn d31 rfl rfl
    · refine X_iloadn 1 d12 rfl ?_
      refine X_aloadn 0 d13 rfl ?_
      refine X_getR d14 fg_x9_9 ?_
      refine X_alen (by decide) d17 ?_
      refine X_icmp_ge (t := 30) d18 rfl (fun h18 => ?_) (fun h18 => ?_)
      · refine X_iconst k_i_m1 d30 ?_
        exact X_ireturn d31 rfl rfl
      · refine X_aloadn 0 d21 rfl ?_
        refine X_getR d22 fg_x9_9 ?_
        refine X_iloadn 1 d25 rfl ?_
        refine X_iaload d26 ?_
        refine X_goto (t := 31) d27 rfl ?_
        exact X_ireturn d31 rfl rfl

theorem dd9_isBlank_b12 : AllD (ib i9_isBlank) [(12, .iconst 1, 1), (13, .goto 4, 3), (17, .ireturn, 1)] := allD_of (by decide +kernel)
def f9_isBlank_b12 (M : MM) : Option (Int32 × MM) :=
  some ((1 : Int32), M)
set_option maxRecDepth 4000 in
theorem T9_isBlank_b12 : ∀ (M : MM), X Li i9_isBlank 12 [] [] M (f9_isBlank_b12 M) := by
  obtain ⟨d12, d13, d17, -⟩ := dd9_isBlank_b12
  intro M
  unfold f9_isBlank_b12
  refine X_iconst k_i_1 d12 ?_
  refine X_goto (t := 17) d13 rfl ?_
  exact X_zreturnc d17 rfl (by decide) rfl

theorem dd9_isBlank : AllD (ib i9_isBlank) [(0, .iload_n 0, 1), (1, .bipush 32, 2), (3, .if_icmp .eq 9, 3), (6, .iload_n 0, 1), (7, .bipush 10, 2), (9, .if_icmp .ne 7, 3), (16, .iconst 0, 1), (17, .ireturn, 1)] := allD_of (by decide +kernel)
def f9_isBlank (M : MM) (a0 : Int32) : Option (Int32 × MM) :=
  if a0 = (32 : Int32) then
    f9_isBlank_b12 M
  else
    if a0 = (10 : Int32) then
      f9_isBlank_b12 M
    else
      some ((0 : Int32), M)
set_option maxRecDepth 4000 in
theorem T9_isBlank (M : MM) (a0 : Int32) : ∀ q, f9_isBlank M a0 = some q → Run i9_isBlank [vi a0] M (Li q) := by
  obtain ⟨d0, d1, d3, d6, d7, d9, d16, d17, -⟩ := dd9_isBlank
  refine Run_of_X (by decide) (Nat.le_of_ble_eq_true rfl) ?_
  show X Li i9_isBlank 0 [(0, vi a0)] [] M _
  unfold f9_isBlank
  refine X_iloadn 0 d0 rfl ?_
  refine X_bipush k_b_32 d1 ?_
  refine X_icmp_eq (t := 12) d3 rfl (fun h3 => ?_) (fun h3 => ?_)
  · refine X_sub [] rfl ?_
    exact T9_isBlank_b12 M
  · refine X_iloadn 0 d6 rfl ?_
    refine X_bipush k_b_10 d7 ?_
    refine X_icmp_ne (t := 16) d9 rfl (fun h9 => ?_) (fun h9 => ?_)
    · refine X_sub [] rfl ?_
      exact T9_isBlank_b12 M
    · refine X_iconst k_i_0 d16 ?_
      exact X_zreturnc d17 rfl (by decide) rfl

theorem dd9_isLetter : AllD (ib i9_isLetter) [(0, .iload_n 0, 1), (1, .bipush 97, 2), (3, .if_icmp .lt 13, 3), (6, .iload_n 0, 1), (7, .bipush 122, 2), (9, .if_icmp .gt 7, 3), (12, .iconst 1, 1), (13, .goto 4, 3), (16, .iconst 0, 1), (17, .ireturn, 1)] := allD_of (by decide +kernel)
def f9_isLetter (M : MM) (a0 : Int32) : Option (Int32 × MM) :=
  if a0 < (97 : Int32) then
    some ((0 : Int32), M)
  else
    if (122 : Int32) < a0 then
      some ((0 : Int32), M)
    else
      some ((1 : Int32), M)
set_option maxRecDepth 4000 in
theorem T9_isLetter (M : MM) (a0 : Int32) : ∀ q, f9_isLetter M a0 = some q → Run i9_isLetter [vi a0] M (Li q) := by
  obtain ⟨d0, d1, d3, d6, d7, d9, d12, d13, d16, d17, -⟩ := dd9_isLetter
  refine Run_of_X (by decide) (Nat.le_of_ble_eq_true rfl) ?_
  show X Li i9_isLetter 0 [(0, vi a0)] [] M _
  unfold f9_isLetter
  refine X_iloadn 0 d0 rfl ?_
  refine X_bipush k_b_97 d1 ?_
  refine X_icmp_lt (t := 16) d3 rfl (fun h3 => ?_) (fun h3 => ?_)
  · refine X_iconst k_i_0 d16 ?_
    exact X_zreturnc d17 rfl (by decide) rfl
  · refine X_iloadn 0 d6 rfl ?_
    refine X_bipush k_b_122 d7 ?_
    refine X_icmp_gt (t := 16) d9 rfl (fun h9 => ?_) (fun h9 => ?_)
    · refine X_iconst k_i_0 d16 ?_
      exact X_zreturnc d17 rfl (by decide) rfl
    · refine X_iconst k_i_1 d12 ?_
      refine X_goto (t := 17) d13 rfl ?_
      exact X_zreturnc d17 rfl (by decide) rfl

theorem dd9_takeWord_b64 : AllD (ib i9_takeWord) [(64, .aload_n 0, 1), (65, .aload_n 0, 1), (66, .getfield 15, 3), (69, .aload_n 0, 1), (70, .getfield 25, 3), (73, .isub, 1), (74, .bipush 6, 2), (76, .if_icmp .gt 7, 3), (79, .iconst 2, 1), (80, .goto 4, 3), (83, .iconst 1, 1), (84, .putfield 22, 3), (87, .return_, 1)] := allD_of (by decide +kernel)
def f9_takeWord_b64 (M : MM) (a0 : Nat) : Option MM :=
  aO M a0 9 <|
  aO M a0 9 <|
  if (6 : Int32) < ((mI M a0 1) - (mI M a0 4)) then
    aO M a0 9 <|
    bM (sI M a0 3 (1 : Int32)) fun M84 =>
    some M84
  else
    aO M a0 9 <|
    bM (sI M a0 3 (2 : Int32)) fun M84 =>
    some M84
set_option maxRecDepth 4000 in
theorem T9_takeWord_b64 : ∀ (M : MM) (a0 : Nat), X Lv i9_takeWord 64 [(0, vr a0)] [] M (f9_takeWord_b64 M a0) := by
  obtain ⟨d64, d65, d66, d69, d70, d73, d74, d76, d79, d80, d83, d84, d87, -⟩ := dd9_takeWord_b64
  intro M a0
  unfold f9_takeWord_b64
  refine X_aloadn 0 d64 rfl ?_
  refine X_aloadn 0 d65 rfl ?_
  refine X_getI d66 fg_x9_15 ?_
  refine X_aloadn 0 d69 rfl ?_
  refine X_getI d70 fg_x9_25 ?_
  refine X_isub d73 ?_
  refine X_bipush k_b_6 d74 ?_
  refine X_icmp_gt (t := 83) d76 rfl (fun h76 => ?_) (fun h76 => ?_)
  · refine X_iconst k_i_1 d83 ?_
    refine X_putI d84 fp_x9_22 ?_
    refine X_bM fun M84 _ => ?_
    exact X_vreturn d87 rfl rfl
  · refine X_iconst k_i_2 d79 ?_
    refine X_goto (t := 84) d80 rfl ?_
    refine X_putI d84 fp_x9_22 ?_
    refine X_bM fun M84 _ => ?_
    exact X_vreturn d87 rfl rfl

theorem dd9_takeWord_b5 : AllD (ib i9_takeWord) [(5, .aload_n 0, 1), (6, .getfield 15, 3), (9, .aload_n 0, 1), (10, .getfield 19, 3), (13, .if_icmp .ge 51, 3), (16, .aload_n 0, 1), (17, .aload_n 0, 1), (18, .getfield 15, 3), (21, .invokevirtual 38, 3), (24, .invokestatic 46, 3), (27, .ifCond .eq 37, 3), (30, .aload_n 0, 1), (31, .aload_n 0, 1), (32, .getfield 28, 3), (35, .bipush 8, 2), (37, .lshl, 1), (38, .aload_n 0, 1), (39, .aload_n 0, 1), (40, .getfield 15, 3), (43, .invokevirtual 38, 3), (46, .i2l, 1), (47, .lor, 1), (48, .putfield 28, 3), (51, .aload_n 0, 1), (52, .dup, 1), (53, .getfield 15, 3), (56, .iconst 1, 1), (57, .iadd, 1), (58, .putfield 15, 3), (61, .goto (-56), 3)] := allD_of (by decide +kernel)
def f9_takeWord_b5_body (rc : MM → Nat → Option MM) (M : MM) (a0 : Nat) : Option MM :=
  aO M a0 9 <|
  aO M a0 9 <|
  if (mI M a0 2) ≤ (mI M a0 1) then
    f9_takeWord_b64 M a0
  else
    aO M a0 9 <|
    aO M a0 9 <|
    cI (f9_byteAt M a0 (mI M a0 1)) fun r21 M21 =>
    cI (f9_isLetter M21 r21) fun r24 M24 =>
    if r24 = 0 then
      f9_takeWord_b64 M24 a0
    else
      aO M24 a0 9 <|
      aO M24 a0 9 <|
      aO M24 a0 9 <|
      cI (f9_byteAt M24 a0 (mI M24 a0 1)) fun r43 M43 =>
      aO M43 a0 9 <|
      bM (sJ M43 a0 5 ((shlL (mJ M24 a0 5) (8 : Int32)) ||| (r43.toInt64))) fun M48 =>
      aO M48 a0 9 <|
      aO M48 a0 9 <|
      bM (sI M48 a0 1 ((mI M48 a0 1) + (1 : Int32))) fun M58 =>
      rc M58 a0
def f9_takeWord_b5 : MM → Nat → Option MM := LP2 (f9_takeWord_b5_body) FU
set_option maxRecDepth 4000 in
theorem T9_takeWord_b5 : ∀ (M : MM) (a0 : Nat), X Lv i9_takeWord 5 [(0, vr a0)] [] M (f9_takeWord_b5 M a0) := by
  obtain ⟨d5, d6, d9, d10, d13, d16, d17, d18, d21, d24, d27, d30, d31, d32, d35, d37, d38, d39, d40, d43, d46, d47, d48, d51, d52, d53, d56, d57, d58, d61, -⟩ := dd9_takeWord_b5
  refine LP2_i (P := fun M a0 o => X Lv i9_takeWord 5 [(0, vr a0)] [] M o) (fun _ _ => X_none) (fun rc ih M a0 => ?_) FU
  unfold f9_takeWord_b5_body
  refine X_aloadn 0 d5 rfl ?_
  refine X_getI d6 fg_x9_15 ?_
  refine X_aloadn 0 d9 rfl ?_
  refine X_getI d10 fg_x9_19 ?_
  refine X_icmp_ge (t := 64) d13 rfl (fun h13 => ?_) (fun h13 => ?_)
  · exact T9_takeWord_b64 M a0
  · refine X_aloadn 0 d16 rfl ?_
    refine X_aloadn 0 d17 rfl ?_
    refine X_getI d18 fg_x9_15 ?_
    refine X_cVi (as := [vi (mI M a0 1)]) d21 cv_x9_38 ⟨by decide, by decide⟩ rfl (Nat.le_of_ble_eq_true rfl) (T9_byteAt M a0 (mI M a0 1)) (fun r21 M21 _ => ?_)
    refine X_cSi (as := [vi r21]) d24 cs_x9_46 ⟨by decide, by decide⟩ rfl (Nat.le_of_ble_eq_true rfl) (T9_isLetter M21 r21) (fun r24 M24 _ => ?_)
    refine X_if_eq (t := 64) d27 rfl (fun h27 => ?_) (fun h27 => ?_)
    · exact T9_takeWord_b64 M24 a0
    · refine X_aloadn 0 d30 rfl ?_
      refine X_aloadn 0 d31 rfl ?_
      refine X_getJ d32 fg_x9_28 ?_
      refine X_bipush k_b_8 d35 ?_
      refine X_lshl d37 ?_
      refine X_aloadn 0 d38 rfl ?_
      refine X_aloadn 0 d39 rfl ?_
      refine X_getI d40 fg_x9_15 ?_
      refine X_cVi (as := [vi (mI M24 a0 1)]) d43 cv_x9_38 ⟨by decide, by decide⟩ rfl (Nat.le_of_ble_eq_true rfl) (T9_byteAt M24 a0 (mI M24 a0 1)) (fun r43 M43 _ => ?_)
      refine X_i2l d46 ?_
      refine X_lor d47 ?_
      refine X_putJ d48 fp_x9_28 ?_
      refine X_bM fun M48 _ => ?_
      refine X_aloadn 0 d51 rfl ?_
      refine X_dupr d52 ?_
      refine X_getI d53 fg_x9_15 ?_
      refine X_iconst k_i_1 d56 ?_
      refine X_iadd d57 ?_
      refine X_putI d58 fp_x9_15 ?_
      refine X_bM fun M58 _ => ?_
      refine X_goto (t := 5) d61 rfl ?_
      exact ih M58 a0

theorem dd9_takeWord : AllD (ib i9_takeWord) [(0, .aload_n 0, 1), (1, .lconst 0, 1), (2, .putfield 28, 3)] := allD_of (by decide +kernel)
def f9_takeWord (M : MM) (a0 : Nat) : Option MM :=
  aO M a0 9 <|
  bM (sJ M a0 5 (0 : Int64)) fun M2 =>
  f9_takeWord_b5 M2 a0
set_option maxRecDepth 4000 in
theorem T9_takeWord (M : MM) (a0 : Nat) : ∀ q, f9_takeWord M a0 = some q → Run i9_takeWord [vr a0] M (Lv q) := by
  obtain ⟨d0, d1, d2, -⟩ := dd9_takeWord
  refine Run_of_X (by decide) (Nat.le_of_ble_eq_true rfl) ?_
  show X Lv i9_takeWord 0 [(0, vr a0)] [] M _
  unfold f9_takeWord
  refine X_aloadn 0 d0 rfl ?_
  refine X_lconst k_l_0 d1 ?_
  refine X_putJ d2 fp_x9_28 ?_
  refine X_bM fun M2 _ => ?_
  exact T9_takeWord_b5 M2 a0

theorem dd9_isDigit : AllD (ib i9_isDigit) [(0, .iload_n 0, 1), (1, .bipush 48, 2), (3, .if_icmp .lt 13, 3), (6, .iload_n 0, 1), (7, .bipush 57, 2), (9, .if_icmp .gt 7, 3), (12, .iconst 1, 1), (13, .goto 4, 3), (16, .iconst 0, 1), (17, .ireturn, 1)] := allD_of (by decide +kernel)
def f9_isDigit (M : MM) (a0 : Int32) : Option (Int32 × MM) :=
  if a0 < (48 : Int32) then
    some ((0 : Int32), M)
  else
    if (57 : Int32) < a0 then
      some ((0 : Int32), M)
    else
      some ((1 : Int32), M)
set_option maxRecDepth 4000 in
theorem T9_isDigit (M : MM) (a0 : Int32) : ∀ q, f9_isDigit M a0 = some q → Run i9_isDigit [vi a0] M (Li q) := by
  obtain ⟨d0, d1, d3, d6, d7, d9, d12, d13, d16, d17, -⟩ := dd9_isDigit
  refine Run_of_X (by decide) (Nat.le_of_ble_eq_true rfl) ?_
  show X Li i9_isDigit 0 [(0, vi a0)] [] M _
  unfold f9_isDigit
  refine X_iloadn 0 d0 rfl ?_
  refine X_bipush k_b_48 d1 ?_
  refine X_icmp_lt (t := 16) d3 rfl (fun h3 => ?_) (fun h3 => ?_)
  · refine X_iconst k_i_0 d16 ?_
    exact X_zreturnc d17 rfl (by decide) rfl
  · refine X_iloadn 0 d6 rfl ?_
    refine X_bipush k_b_57 d7 ?_
    refine X_icmp_gt (t := 16) d9 rfl (fun h9 => ?_) (fun h9 => ?_)
    · refine X_iconst k_i_0 d16 ?_
      exact X_zreturnc d17 rfl (by decide) rfl
    · refine X_iconst k_i_1 d12 ?_
      refine X_goto (t := 17) d13 rfl ?_
      exact X_zreturnc d17 rfl (by decide) rfl

theorem dd9_takeNumber_b108 : AllD (ib i9_takeNumber) [(108, .iconst 1, 1), (109, .putfield 22, 3), (112, .return_, 1)] := allD_of (by decide +kernel)
def f9_takeNumber_b108 (M : MM) (s0 : Nat) : Option MM :=
  aO M s0 9 <|
  bM (sI M s0 3 (1 : Int32)) fun M109 =>
  some M109
set_option maxRecDepth 4000 in
theorem T9_takeNumber_b108 : ∀ (M : MM) (s0 : Nat), X Lv i9_takeNumber 108 [] [vr s0] M (f9_takeNumber_b108 M s0) := by
  obtain ⟨d108, d109, d112, -⟩ := dd9_takeNumber_b108
  intro M s0
  unfold f9_takeNumber_b108
  refine X_iconst k_i_1 d108 ?_
  refine X_putI d109 fp_x9_22 ?_
  refine X_bM fun M109 _ => ?_
  exact X_vreturn d112 rfl rfl

theorem dd9_takeNumber_b84 : AllD (ib i9_takeNumber) [(84, .istore_n 1, 1), (85, .aload_n 0, 1), (86, .iload_n 1, 1), (87, .ifCond .eq 21, 3), (90, .aload_n 0, 1), (91, .aload_n 0, 1), (92, .getfield 15, 3), (95, .invokevirtual 38, 3), (98, .invokestatic 46, 3), (101, .ifCond .ne 7, 3), (104, .iconst 3, 1), (105, .goto 4, 3), (109, .putfield 22, 3), (112, .return_, 1)] := allD_of (by decide +kernel)
def f9_takeNumber_b84 (M : MM) (a0 : Nat) (s0 : Int32) : Option MM :=
  if s0 = 0 then
    f9_takeNumber_b108 M a0
  else
    aO M a0 9 <|
    aO M a0 9 <|
    cI (f9_byteAt M a0 (mI M a0 1)) fun r95 M95 =>
    cI (f9_isLetter M95 r95) fun r98 M98 =>
    if r98 = 0 then
      aO M98 a0 9 <|
      bM (sI M98 a0 3 (3 : Int32)) fun M109 =>
      some M109
    else
      f9_takeNumber_b108 M98 a0
set_option maxRecDepth 4000 in
theorem T9_takeNumber_b84 : ∀ (M : MM) (a0 : Nat) (s0 : Int32), X Lv i9_takeNumber 84 [(0, vr a0)] [vi s0] M (f9_takeNumber_b84 M a0 s0) := by
  obtain ⟨d84, d85, d86, d87, d90, d91, d92, d95, d98, d101, d104, d105, d109, d112, -⟩ := dd9_takeNumber_b84
  intro M a0 s0
  unfold f9_takeNumber_b84
  refine X_istoren (lv' := [(1, vi s0), (0, vr a0)]) d84 (by decide) rfl ?_
  refine X_aloadn 1 d85 rfl ?_
  refine X_iloadn 0 d86 rfl ?_
  refine X_if_eq (t := 108) d87 rfl (fun h87 => ?_) (fun h87 => ?_)
  · refine X_sub [] rfl ?_
    exact T9_takeNumber_b108 M a0
  · refine X_aloadn 1 d90 rfl ?_
    refine X_aloadn 1 d91 rfl ?_
    refine X_getI d92 fg_x9_15 ?_
    refine X_cVi (as := [vi (mI M a0 1)]) d95 cv_x9_38 ⟨by decide, by decide⟩ rfl (Nat.le_of_ble_eq_true rfl) (T9_byteAt M a0 (mI M a0 1)) (fun r95 M95 _ => ?_)
    refine X_cSi (as := [vi r95]) d98 cs_x9_46 ⟨by decide, by decide⟩ rfl (Nat.le_of_ble_eq_true rfl) (T9_isLetter M95 r95) (fun r98 M98 _ => ?_)
    refine X_if_ne (t := 108) d101 rfl (fun h101 => ?_) (fun h101 => ?_)
    · refine X_iconst k_i_3 d104 ?_
      refine X_goto (t := 109) d105 rfl ?_
      refine X_putI d109 fp_x9_22 ?_
      refine X_bM fun M109 _ => ?_
      exact X_vreturn d112 rfl rfl
    · refine X_sub [] rfl ?_
      exact T9_takeNumber_b108 M98 a0

theorem dd9_takeNumber_b66 : AllD (ib i9_takeNumber) [(66, .aload_n 0, 1), (67, .getfield 15, 3), (70, .aload_n 0, 1), (71, .getfield 25, 3), (74, .isub, 1), (75, .iconst 3, 1), (76, .if_icmp .gt 7, 3), (79, .iconst 1, 1), (80, .goto 4, 3), (83, .iconst 0, 1)] := allD_of (by decide +kernel)
def f9_takeNumber_b66 (M : MM) (a0 : Nat) : Option MM :=
  aO M a0 9 <|
  aO M a0 9 <|
  if (3 : Int32) < ((mI M a0 1) - (mI M a0 4)) then
    f9_takeNumber_b84 M a0 (0 : Int32)
  else
    f9_takeNumber_b84 M a0 (1 : Int32)
set_option maxRecDepth 4000 in
theorem T9_takeNumber_b66 : ∀ (M : MM) (a0 : Nat), X Lv i9_takeNumber 66 [(0, vr a0)] [] M (f9_takeNumber_b66 M a0) := by
  obtain ⟨d66, d67, d70, d71, d74, d75, d76, d79, d80, d83, -⟩ := dd9_takeNumber_b66
  intro M a0
  unfold f9_takeNumber_b66
  refine X_aloadn 0 d66 rfl ?_
  refine X_getI d67 fg_x9_15 ?_
  refine X_aloadn 0 d70 rfl ?_
  refine X_getI d71 fg_x9_25 ?_
  refine X_isub d74 ?_
  refine X_iconst k_i_3 d75 ?_
  refine X_icmp_gt (t := 83) d76 rfl (fun h76 => ?_) (fun h76 => ?_)
  · refine X_iconst k_i_0 d83 ?_
    exact T9_takeNumber_b84 M a0 (0 : Int32)
  · refine X_iconst k_i_1 d79 ?_
    refine X_goto (t := 84) d80 rfl ?_
    exact T9_takeNumber_b84 M a0 (1 : Int32)

theorem dd9_takeNumber_b5 : AllD (ib i9_takeNumber) [(5, .aload_n 0, 1), (6, .getfield 15, 3), (9, .aload_n 0, 1), (10, .getfield 19, 3), (13, .if_icmp .ge 53, 3), (16, .aload_n 0, 1), (17, .aload_n 0, 1), (18, .getfield 15, 3), (21, .invokevirtual 38, 3), (24, .invokestatic 52, 3), (27, .ifCond .eq 39, 3), (30, .aload_n 0, 1), (31, .aload_n 0, 1), (32, .getfield 32, 3), (35, .bipush 10, 2), (37, .imul, 1), (38, .aload_n 0, 1), (39, .aload_n 0, 1), (40, .getfield 15, 3), (43, .invokevirtual 38, 3), (46, .iadd, 1), (47, .bipush 48, 2), (49, .isub, 1), (50, .putfield 32, 3), (53, .aload_n 0, 1), (54, .dup, 1), (55, .getfield 15, 3), (58, .iconst 1, 1), (59, .iadd, 1), (60, .putfield 15, 3), (63, .goto (-58), 3)] := allD_of (by decide +kernel)
def f9_takeNumber_b5_body (rc : MM → Nat → Option MM) (M : MM) (a0 : Nat) : Option MM :=
  aO M a0 9 <|
  aO M a0 9 <|
  if (mI M a0 2) ≤ (mI M a0 1) then
    f9_takeNumber_b66 M a0
  else
    aO M a0 9 <|
    aO M a0 9 <|
    cI (f9_byteAt M a0 (mI M a0 1)) fun r21 M21 =>
    cI (f9_isDigit M21 r21) fun r24 M24 =>
    if r24 = 0 then
      f9_takeNumber_b66 M24 a0
    else
      aO M24 a0 9 <|
      aO M24 a0 9 <|
      aO M24 a0 9 <|
      cI (f9_byteAt M24 a0 (mI M24 a0 1)) fun r43 M43 =>
      aO M43 a0 9 <|
      bM (sI M43 a0 6 ((((mI M24 a0 6) * (10 : Int32)) + r43) - (48 : Int32))) fun M50 =>
      aO M50 a0 9 <|
      aO M50 a0 9 <|
      bM (sI M50 a0 1 ((mI M50 a0 1) + (1 : Int32))) fun M60 =>
      rc M60 a0
def f9_takeNumber_b5 : MM → Nat → Option MM := LP2 (f9_takeNumber_b5_body) FU
set_option maxRecDepth 4000 in
theorem T9_takeNumber_b5 : ∀ (M : MM) (a0 : Nat), X Lv i9_takeNumber 5 [(0, vr a0)] [] M (f9_takeNumber_b5 M a0) := by
  obtain ⟨d5, d6, d9, d10, d13, d16, d17, d18, d21, d24, d27, d30, d31, d32, d35, d37, d38, d39, d40, d43, d46, d47, d49, d50, d53, d54, d55, d58, d59, d60, d63, -⟩ := dd9_takeNumber_b5
  refine LP2_i (P := fun M a0 o => X Lv i9_takeNumber 5 [(0, vr a0)] [] M o) (fun _ _ => X_none) (fun rc ih M a0 => ?_) FU
  unfold f9_takeNumber_b5_body
  refine X_aloadn 0 d5 rfl ?_
  refine X_getI d6 fg_x9_15 ?_
  refine X_aloadn 0 d9 rfl ?_
  refine X_getI d10 fg_x9_19 ?_
  refine X_icmp_ge (t := 66) d13 rfl (fun h13 => ?_) (fun h13 => ?_)
  · exact T9_takeNumber_b66 M a0
  · refine X_aloadn 0 d16 rfl ?_
    refine X_aloadn 0 d17 rfl ?_
    refine X_getI d18 fg_x9_15 ?_
    refine X_cVi (as := [vi (mI M a0 1)]) d21 cv_x9_38 ⟨by decide, by decide⟩ rfl (Nat.le_of_ble_eq_true rfl) (T9_byteAt M a0 (mI M a0 1)) (fun r21 M21 _ => ?_)
    refine X_cSi (as := [vi r21]) d24 cs_x9_52 ⟨by decide, by decide⟩ rfl (Nat.le_of_ble_eq_true rfl) (T9_isDigit M21 r21) (fun r24 M24 _ => ?_)
    refine X_if_eq (t := 66) d27 rfl (fun h27 => ?_) (fun h27 => ?_)
    · exact T9_takeNumber_b66 M24 a0
    · refine X_aloadn 0 d30 rfl ?_
      refine X_aloadn 0 d31 rfl ?_
      refine X_getI d32 fg_x9_32 ?_
      refine X_bipush k_b_10 d35 ?_
      refine X_imul d37 ?_
      refine X_aloadn 0 d38 rfl ?_
      refine X_aloadn 0 d39 rfl ?_
      refine X_getI d40 fg_x9_15 ?_
      refine X_cVi (as := [vi (mI M24 a0 1)]) d43 cv_x9_38 ⟨by decide, by decide⟩ rfl (Nat.le_of_ble_eq_true rfl) (T9_byteAt M24 a0 (mI M24 a0 1)) (fun r43 M43 _ => ?_)
      refine X_iadd d46 ?_
      refine X_bipush k_b_48 d47 ?_
      refine X_isub d49 ?_
      refine X_putI d50 fp_x9_32 ?_
      refine X_bM fun M50 _ => ?_
      refine X_aloadn 0 d53 rfl ?_
      refine X_dupr d54 ?_
      refine X_getI d55 fg_x9_15 ?_
      refine X_iconst k_i_1 d58 ?_
      refine X_iadd d59 ?_
      refine X_putI d60 fp_x9_15 ?_
      refine X_bM fun M60 _ => ?_
      refine X_goto (t := 5) d63 rfl ?_
      exact ih M60 a0

theorem dd9_takeNumber : AllD (ib i9_takeNumber) [(0, .aload_n 0, 1), (1, .iconst 0, 1), (2, .putfield 32, 3)] := allD_of (by decide +kernel)
def f9_takeNumber (M : MM) (a0 : Nat) : Option MM :=
  aO M a0 9 <|
  bM (sI M a0 6 (0 : Int32)) fun M2 =>
  f9_takeNumber_b5 M2 a0
set_option maxRecDepth 4000 in
theorem T9_takeNumber (M : MM) (a0 : Nat) : ∀ q, f9_takeNumber M a0 = some q → Run i9_takeNumber [vr a0] M (Lv q) := by
  obtain ⟨d0, d1, d2, -⟩ := dd9_takeNumber
  refine Run_of_X (by decide) (Nat.le_of_ble_eq_true rfl) ?_
  show X Lv i9_takeNumber 0 [(0, vr a0)] [] M _
  unfold f9_takeNumber
  refine X_aloadn 0 d0 rfl ?_
  refine X_iconst k_i_0 d1 ?_
  refine X_putI d2 fp_x9_32 ?_
  refine X_bM fun M2 _ => ?_
  exact T9_takeNumber_b5 M2 a0

theorem dd9_takeNext_b122 : AllD (ib i9_takeNext) [(122, .putfield 22, 3), (125, .aload_n 0, 1), (126, .dup, 1), (127, .getfield 15, 3), (130, .iconst 1, 1), (131, .iadd, 1), (132, .putfield 15, 3), (135, .return_, 1)] := allD_of (by decide +kernel)
def f9_takeNext_b122 (M : MM) (a0 : Nat) (s0 : Int32) (s1 : Nat) : Option MM :=
  aO M s1 9 <|
  bM (sI M s1 3 s0) fun M122 =>
  aO M122 a0 9 <|
  aO M122 a0 9 <|
  bM (sI M122 a0 1 ((mI M122 a0 1) + (1 : Int32))) fun M132 =>
  some M132
set_option maxRecDepth 4000 in
theorem T9_takeNext_b122 : ∀ (M : MM) (a0 : Nat) (s0 : Int32) (s1 : Nat), X Lv i9_takeNext 122 [(0, vr a0)] [vi s0, vr s1] M (f9_takeNext_b122 M a0 s0 s1) := by
  obtain ⟨d122, d125, d126, d127, d130, d131, d132, d135, -⟩ := dd9_takeNext_b122
  intro M a0 s0 s1
  unfold f9_takeNext_b122
  refine X_putI d122 fp_x9_22 ?_
  refine X_bM fun M122 _ => ?_
  refine X_aloadn 0 d125 rfl ?_
  refine X_dupr d126 ?_
  refine X_getI d127 fg_x9_15 ?_
  refine X_iconst k_i_1 d130 ?_
  refine X_iadd d131 ?_
  refine X_putI d132 fp_x9_15 ?_
  refine X_bM fun M132 _ => ?_
  exact X_vreturn d135 rfl rfl

theorem dd9_takeNext_b46 : AllD (ib i9_takeNext) [(46, .aload_n 0, 1), (47, .aload_n 0, 1), (48, .getfield 25, 3), (51, .invokevirtual 38, 3), (54, .istore_n 1, 1), (55, .aload_n 0, 1), (56, .aload_n 0, 1), (57, .getfield 25, 3), (60, .putfield 15, 3), (63, .aload_n 0, 1), (64, .getfield 25, 3), (67, .aload_n 0, 1), (68, .getfield 19, 3), (71, .if_icmp .lt 11, 3), (74, .aload_n 0, 1), (75, .iconst 0, 1), (76, .putfield 22, 3), (79, .goto 56, 3), (82, .iload_n 1, 1), (83, .invokestatic 46, 3), (86, .ifCond .eq 10, 3), (89, .aload_n 0, 1), (90, .invokevirtual 49, 3), (93, .goto 42, 3), (96, .iload_n 1, 1), (97, .invokestatic 52, 3), (100, .ifCond .eq 10, 3), (103, .aload_n 0, 1), (104, .invokevirtual 55, 3), (107, .goto 28, 3), (110, .aload_n 0, 1), (111, .iload_n 1, 1), (112, .bipush 59, 2), (114, .if_icmp .ne 7, 3), (117, .iconst 4, 1), (118, .goto 4, 3), (121, .iconst 1, 1), (135, .return_, 1)] := allD_of (by decide +kernel)
def f9_takeNext_b46 (M : MM) (a0 : Nat) : Option MM :=
  aO M a0 9 <|
  aO M a0 9 <|
  cI (f9_byteAt M a0 (mI M a0 4)) fun r51 M51 =>
  aO M51 a0 9 <|
  aO M51 a0 9 <|
  bM (sI M51 a0 1 (mI M51 a0 4)) fun M60 =>
  aO M60 a0 9 <|
  aO M60 a0 9 <|
  if (mI M60 a0 4) < (mI M60 a0 2) then
    cI (f9_isLetter M60 r51) fun r83 M83 =>
    if r83 = 0 then
      cI (f9_isDigit M83 r51) fun r97 M97 =>
      if r97 = 0 then
        if r51 = (59 : Int32) then
          f9_takeNext_b122 M97 a0 (4 : Int32) a0
        else
          f9_takeNext_b122 M97 a0 (1 : Int32) a0
      else
        aO M97 a0 9 <|
        cV (f9_takeNumber M97 a0) fun M104 =>
        some M104
    else
      aO M83 a0 9 <|
      cV (f9_takeWord M83 a0) fun M90 =>
      some M90
  else
    aO M60 a0 9 <|
    bM (sI M60 a0 3 (0 : Int32)) fun M76 =>
    some M76
set_option maxRecDepth 4000 in
theorem T9_takeNext_b46 : ∀ (M : MM) (a0 : Nat), X Lv i9_takeNext 46 [(0, vr a0)] [] M (f9_takeNext_b46 M a0) := by
  obtain ⟨d46, d47, d48, d51, d54, d55, d56, d57, d60, d63, d64, d67, d68, d71, d74, d75, d76, d79, d82, d83, d86, d89, d90, d93, d96, d97, d100, d103, d104, d107, d110, d111, d112, d114, d117, d118, d121, d135, -⟩ := dd9_takeNext_b46
  intro M a0
  unfold f9_takeNext_b46
  refine X_aloadn 0 d46 rfl ?_
  refine X_aloadn 0 d47 rfl ?_
  refine X_getI d48 fg_x9_25 ?_
  refine X_cVi (as := [vi (mI M a0 4)]) d51 cv_x9_38 ⟨by decide, by decide⟩ rfl (Nat.le_of_ble_eq_true rfl) (T9_byteAt M a0 (mI M a0 4)) (fun r51 M51 _ => ?_)
  refine X_istoren (lv' := [(1, vi r51), (0, vr a0)]) d54 (by decide) rfl ?_
  refine X_aloadn 1 d55 rfl ?_
  refine X_aloadn 1 d56 rfl ?_
  refine X_getI d57 fg_x9_25 ?_
  refine X_putI d60 fp_x9_15 ?_
  refine X_bM fun M60 _ => ?_
  refine X_aloadn 1 d63 rfl ?_
  refine X_getI d64 fg_x9_25 ?_
  refine X_aloadn 1 d67 rfl ?_
  refine X_getI d68 fg_x9_19 ?_
  refine X_icmp_lt (t := 82) d71 rfl (fun h71 => ?_) (fun h71 => ?_)
  · refine X_iloadn 0 d82 rfl ?_
    refine X_cSi (as := [vi r51]) d83 cs_x9_46 ⟨by decide, by decide⟩ rfl (Nat.le_of_ble_eq_true rfl) (T9_isLetter M60 r51) (fun r83 M83 _ => ?_)
    refine X_if_eq (t := 96) d86 rfl (fun h86 => ?_) (fun h86 => ?_)
    · refine X_iloadn 0 d96 rfl ?_
      refine X_cSi (as := [vi r51]) d97 cs_x9_52 ⟨by decide, by decide⟩ rfl (Nat.le_of_ble_eq_true rfl) (T9_isDigit M83 r51) (fun r97 M97 _ => ?_)
      refine X_if_eq (t := 110) d100 rfl (fun h100 => ?_) (fun h100 => ?_)
      · refine X_aloadn 1 d110 rfl ?_
        refine X_iloadn 0 d111 rfl ?_
        refine X_bipush k_b_59 d112 ?_
        refine X_icmp_ne (t := 121) d114 rfl (fun h114 => ?_) (fun h114 => ?_)
        · refine X_iconst k_i_4 d117 ?_
          refine X_goto (t := 122) d118 rfl ?_
          refine X_sub [1] rfl ?_
          exact T9_takeNext_b122 M97 a0 (4 : Int32) a0
        · refine X_iconst k_i_1 d121 ?_
          refine X_sub [1] rfl ?_
          exact T9_takeNext_b122 M97 a0 (1 : Int32) a0
      · refine X_aloadn 1 d103 rfl ?_
        refine X_cVv (as := []) d104 cv_x9_55 ⟨by decide, by decide⟩ rfl (Nat.le_of_ble_eq_true rfl) (T9_takeNumber M97 a0) (fun M104 _ => ?_)
        refine X_goto (t := 135) d107 rfl ?_
        exact X_vreturn d135 rfl rfl
    · refine X_aloadn 1 d89 rfl ?_
      refine X_cVv (as := []) d90 cv_x9_49 ⟨by decide, by decide⟩ rfl (Nat.le_of_ble_eq_true rfl) (T9_takeWord M83 a0) (fun M90 _ => ?_)
      refine X_goto (t := 135) d93 rfl ?_
      exact X_vreturn d135 rfl rfl
  · refine X_aloadn 1 d74 rfl ?_
    refine X_iconst k_i_0 d75 ?_
    refine X_putI d76 fp_x9_22 ?_
    refine X_bM fun M76 _ => ?_
    refine X_goto (t := 135) d79 rfl ?_
    exact X_vreturn d135 rfl rfl

theorem dd9_takeNext_b8 : AllD (ib i9_takeNext) [(8, .aload_n 0, 1), (9, .getfield 25, 3), (12, .aload_n 0, 1), (13, .getfield 19, 3), (16, .if_icmp .ge 30, 3), (19, .aload_n 0, 1), (20, .aload_n 0, 1), (21, .getfield 25, 3), (24, .invokevirtual 38, 3), (27, .invokestatic 42, 3), (30, .ifCond .eq 16, 3), (33, .aload_n 0, 1), (34, .dup, 1), (35, .getfield 25, 3), (38, .iconst 1, 1), (39, .iadd, 1), (40, .putfield 25, 3), (43, .goto (-35), 3)] := allD_of (by decide +kernel)
def f9_takeNext_b8_body (rc : MM → Nat → Option MM) (M : MM) (a0 : Nat) : Option MM :=
  aO M a0 9 <|
  aO M a0 9 <|
  if (mI M a0 2) ≤ (mI M a0 4) then
    f9_takeNext_b46 M a0
  else
    aO M a0 9 <|
    aO M a0 9 <|
    cI (f9_byteAt M a0 (mI M a0 4)) fun r24 M24 =>
    cI (f9_isBlank M24 r24) fun r27 M27 =>
    if r27 = 0 then
      f9_takeNext_b46 M27 a0
    else
      aO M27 a0 9 <|
      aO M27 a0 9 <|
      bM (sI M27 a0 4 ((mI M27 a0 4) + (1 : Int32))) fun M40 =>
      rc M40 a0
def f9_takeNext_b8 : MM → Nat → Option MM := LP2 (f9_takeNext_b8_body) FU
set_option maxRecDepth 4000 in
theorem T9_takeNext_b8 : ∀ (M : MM) (a0 : Nat), X Lv i9_takeNext 8 [(0, vr a0)] [] M (f9_takeNext_b8 M a0) := by
  obtain ⟨d8, d9, d12, d13, d16, d19, d20, d21, d24, d27, d30, d33, d34, d35, d38, d39, d40, d43, -⟩ := dd9_takeNext_b8
  refine LP2_i (P := fun M a0 o => X Lv i9_takeNext 8 [(0, vr a0)] [] M o) (fun _ _ => X_none) (fun rc ih M a0 => ?_) FU
  unfold f9_takeNext_b8_body
  refine X_aloadn 0 d8 rfl ?_
  refine X_getI d9 fg_x9_25 ?_
  refine X_aloadn 0 d12 rfl ?_
  refine X_getI d13 fg_x9_19 ?_
  refine X_icmp_ge (t := 46) d16 rfl (fun h16 => ?_) (fun h16 => ?_)
  · exact T9_takeNext_b46 M a0
  · refine X_aloadn 0 d19 rfl ?_
    refine X_aloadn 0 d20 rfl ?_
    refine X_getI d21 fg_x9_25 ?_
    refine X_cVi (as := [vi (mI M a0 4)]) d24 cv_x9_38 ⟨by decide, by decide⟩ rfl (Nat.le_of_ble_eq_true rfl) (T9_byteAt M a0 (mI M a0 4)) (fun r24 M24 _ => ?_)
    refine X_cSi (as := [vi r24]) d27 cs_x9_42 ⟨by decide, by decide⟩ rfl (Nat.le_of_ble_eq_true rfl) (T9_isBlank M24 r24) (fun r27 M27 _ => ?_)
    refine X_if_eq (t := 46) d30 rfl (fun h30 => ?_) (fun h30 => ?_)
    · exact T9_takeNext_b46 M27 a0
    · refine X_aloadn 0 d33 rfl ?_
      refine X_dupr d34 ?_
      refine X_getI d35 fg_x9_25 ?_
      refine X_iconst k_i_1 d38 ?_
      refine X_iadd d39 ?_
      refine X_putI d40 fp_x9_25 ?_
      refine X_bM fun M40 _ => ?_
      refine X_goto (t := 8) d43 rfl ?_
      exact ih M40 a0

theorem dd9_takeNext : AllD (ib i9_takeNext) [(0, .aload_n 0, 1), (1, .aload_n 0, 1), (2, .getfield 15, 3), (5, .putfield 25, 3)] := allD_of (by decide +kernel)
def f9_takeNext (M : MM) (a0 : Nat) : Option MM :=
  aO M a0 9 <|
  aO M a0 9 <|
  bM (sI M a0 4 (mI M a0 1)) fun M5 =>
  f9_takeNext_b8 M5 a0
set_option maxRecDepth 4000 in
theorem T9_takeNext (M : MM) (a0 : Nat) : ∀ q, f9_takeNext M a0 = some q → Run i9_takeNext [vr a0] M (Lv q) := by
  obtain ⟨d0, d1, d2, d5, -⟩ := dd9_takeNext
  refine Run_of_X (by decide) (Nat.le_of_ble_eq_true rfl) ?_
  show X Lv i9_takeNext 0 [(0, vr a0)] [] M _
  unfold f9_takeNext
  refine X_aloadn 0 d0 rfl ?_
  refine X_aloadn 0 d1 rfl ?_
  refine X_getI d2 fg_x9_15 ?_
  refine X_putI d5 fp_x9_25 ?_
  refine X_bM fun M5 _ => ?_
  exact T9_takeNext_b8 M5 a0

theorem dd9_takeFirst : AllD (ib i9_takeFirst) [(0, .aload_n 0, 1), (1, .iconst 0, 1), (2, .putfield 15, 3), (5, .aload_n 0, 1), (6, .invokevirtual 35, 3), (9, .return_, 1)] := allD_of (by decide +kernel)
def f9_takeFirst (M : MM) (a0 : Nat) : Option MM :=
  aO M a0 9 <|
  bM (sI M a0 1 (0 : Int32)) fun M2 =>
  aO M2 a0 9 <|
  cV (f9_takeNext M2 a0) fun M6 =>
  some M6
set_option maxRecDepth 4000 in
theorem T9_takeFirst (M : MM) (a0 : Nat) : ∀ q, f9_takeFirst M a0 = some q → Run i9_takeFirst [vr a0] M (Lv q) := by
  obtain ⟨d0, d1, d2, d5, d6, d9, -⟩ := dd9_takeFirst
  refine Run_of_X (by decide) (Nat.le_of_ble_eq_true rfl) ?_
  show X Lv i9_takeFirst 0 [(0, vr a0)] [] M _
  unfold f9_takeFirst
  refine X_aloadn 0 d0 rfl ?_
  refine X_iconst k_i_0 d1 ?_
  refine X_putI d2 fp_x9_15 ?_
  refine X_bM fun M2 _ => ?_
  refine X_aloadn 0 d5 rfl ?_
  refine X_cVv (as := []) d6 cv_x9_35 ⟨by decide, by decide⟩ rfl (Nat.le_of_ble_eq_true rfl) (T9_takeNext M2 a0) (fun M6 _ => ?_)
  exact X_vreturn d9 rfl rfl

theorem dd8_begin : AllD (ib i8_begin) [(0, .aload_n 0, 1), (1, .aload_n 1, 1), (2, .putfield 22, 3), (5, .aload_n 0, 1), (6, .iconst 0, 1), (7, .putfield 9, 3), (10, .aload_n 0, 1), (11, .iconst (-1), 1), (12, .putfield 15, 3), (15, .aload_n 0, 1), (16, .getfield 18, 3), (19, .invokevirtual 98, 3), (22, .return_, 1)] := allD_of (by decide +kernel)
def f8_begin (M : MM) (a0 : Nat) (a1 : Nat) : Option MM :=
  aO M a0 8 <|
  bM (sR M a0 1 a1) fun M2 =>
  aO M2 a0 8 <|
  bM (sI M2 a0 2 (0 : Int32)) fun M7 =>
  aO M7 a0 8 <|
  bM (sI M7 a0 3 (-1 : Int32)) fun M12 =>
  aO M12 a0 8 <|
  aO M12 (mR M12 a0 0) 9 <|
  cV (f9_takeFirst M12 (mR M12 a0 0)) fun M19 =>
  some M19
set_option maxRecDepth 4000 in
theorem T8_begin (M : MM) (a0 : Nat) (a1 : Nat) : ∀ q, f8_begin M a0 a1 = some q → Run i8_begin [vr a0, vr a1] M (Lv q) := by
  obtain ⟨d0, d1, d2, d5, d6, d7, d10, d11, d12, d15, d16, d19, d22, -⟩ := dd8_begin
  refine Run_of_X (by decide) (Nat.le_of_ble_eq_true rfl) ?_
  show X Lv i8_begin 0 [(0, vr a0), (1, vr a1)] [] M _
  unfold f8_begin
  refine X_aloadn 0 d0 rfl ?_
  refine X_aloadn 1 d1 rfl ?_
  refine X_putR d2 fp_x8_22 (RefT.obj _) ?_
  refine X_bM fun M2 _ => ?_
  refine X_aloadn 0 d5 rfl ?_
  refine X_iconst k_i_0 d6 ?_
  refine X_putI d7 fp_x8_9 ?_
  refine X_bM fun M7 _ => ?_
  refine X_aloadn 0 d10 rfl ?_
  refine X_iconst k_i_m1 d11 ?_
  refine X_putI d12 fp_x8_15 ?_
  refine X_bM fun M12 _ => ?_
  refine X_aloadn 0 d15 rfl ?_
  refine X_getR d16 fg_x8_18 ?_
  refine X_cVv (as := []) d19 cv_x8_98 ⟨by decide, by decide⟩ rfl (Nat.le_of_ble_eq_true rfl) (T9_takeFirst M12 (mR M12 a0 0)) (fun M19 _ => ?_)
  exact X_vreturn d22 rfl rfl

theorem dd8_fail : AllD (ib i8_fail) [(0, .aload_n 0, 1), (1, .iload_n 1, 1), (2, .putfield 9, 3), (5, .aload_n 0, 1), (6, .aload_n 0, 1), (7, .getfield 18, 3), (10, .getfield 101, 3), (13, .putfield 15, 3), (16, .iconst 0, 1), (17, .ireturn, 1)] := allD_of (by decide +kernel)
def f8_fail (M : MM) (a0 : Nat) (a1 : Int32) : Option (Int32 × MM) :=
  aO M a0 8 <|
  bM (sI M a0 2 a1) fun M2 =>
  aO M2 a0 8 <|
  aO M2 (mR M2 a0 0) 9 <|
  aO M2 a0 8 <|
  bM (sI M2 a0 3 (mI M2 (mR M2 a0 0) 4)) fun M13 =>
  some ((0 : Int32), M13)
set_option maxRecDepth 4000 in
theorem T8_fail (M : MM) (a0 : Nat) (a1 : Int32) : ∀ q, f8_fail M a0 a1 = some q → Run i8_fail [vr a0, vi a1] M (Li q) := by
  obtain ⟨d0, d1, d2, d5, d6, d7, d10, d13, d16, d17, -⟩ := dd8_fail
  refine Run_of_X (by decide) (Nat.le_of_ble_eq_true rfl) ?_
  show X Li i8_fail 0 [(0, vr a0), (1, vi a1)] [] M _
  unfold f8_fail
  refine X_aloadn 0 d0 rfl ?_
  refine X_iloadn 1 d1 rfl ?_
  refine X_putI d2 fp_x8_9 ?_
  refine X_bM fun M2 _ => ?_
  refine X_aloadn 0 d5 rfl ?_
  refine X_aloadn 0 d6 rfl ?_
  refine X_getR d7 fg_x8_18 ?_
  refine X_getI d10 fg_x8_101 ?_
  refine X_putI d13 fp_x8_15 ?_
  refine X_bM fun M13 _ => ?_
  refine X_iconst k_i_0 d16 ?_
  exact X_zreturnc d17 rfl (by decide) rfl

theorem dd8_init : AllD (ib i8_init) [(0, .aload_n 0, 1), (1, .invokespecial 3, 3), (4, .aload_n 0, 1), (5, .iconst 0, 1), (6, .putfield 9, 3), (9, .aload_n 0, 1), (10, .iconst (-1), 1), (11, .putfield 15, 3), (14, .aload_n 0, 1), (15, .aload_n 1, 1), (16, .putfield 18, 3), (19, .aload_n 0, 1), (20, .aload_n 2, 1), (21, .putfield 22, 3), (24, .return_, 1)] := allD_of (by decide +kernel)
def f8_init (M : MM) (a0 : Nat) (a1 : Nat) (a2 : Nat) : Option MM :=
  gd (a0 ≠ 0) <|
  aO M a0 8 <|
  bM (sI M a0 2 (0 : Int32)) fun M6 =>
  aO M6 a0 8 <|
  bM (sI M6 a0 3 (-1 : Int32)) fun M11 =>
  aO M11 a0 8 <|
  bM (sR M11 a0 0 a1) fun M16 =>
  aO M16 a0 8 <|
  bM (sR M16 a0 1 a2) fun M21 =>
  some M21
set_option maxRecDepth 4000 in
theorem T8_init (M : MM) (a0 : Nat) (a1 : Nat) (a2 : Nat) : ∀ q, f8_init M a0 a1 a2 = some q → Run i8_init [vr a0, vr a1, vr a2] M (Lv q) := by
  obtain ⟨d0, d1, d4, d5, d6, d9, d10, d11, d14, d15, d16, d19, d20, d21, d24, -⟩ := dd8_init
  refine Run_of_X (by decide) (Nat.le_of_ble_eq_true rfl) ?_
  show X Lv i8_init 0 [(0, vr a0), (1, vr a1), (2, vr a2)] [] M _
  unfold f8_init
  refine X_aloadn 0 d0 rfl ?_
  refine X_objInit d1 oi_x8_3 (by decide) (Nat.le_of_ble_eq_true rfl) ?_
  refine X_aloadn 0 d4 rfl ?_
  refine X_iconst k_i_0 d5 ?_
  refine X_putI d6 fp_x8_9 ?_
  refine X_bM fun M6 _ => ?_
  refine X_aloadn 0 d9 rfl ?_
  refine X_iconst k_i_m1 d10 ?_
  refine X_putI d11 fp_x8_15 ?_
  refine X_bM fun M11 _ => ?_
  refine X_aloadn 0 d14 rfl ?_
  refine X_aloadn 1 d15 rfl ?_
  refine X_putRF d16 fp_x8_18 (RefT.obj _) rfl rfl ?_
  refine X_bM fun M16 _ => ?_
  refine X_aloadn 0 d19 rfl ?_
  refine X_aloadn 2 d20 rfl ?_
  refine X_putR d21 fp_x8_22 (RefT.obj _) ?_
  refine X_bM fun M21 _ => ?_
  exact X_vreturn d24 rfl rfl

theorem dd9_isName : AllD (ib i9_isName) [(0, .aload_n 0, 1), (1, .getfield 22, 3), (4, .iconst 2, 1), (5, .if_icmp .ne 84, 3), (8, .aload_n 0, 1), (9, .getfield 28, 3), (12, .ldc2_w 58, 3), (15, .lcmp, 1), (16, .ifCond .eq 73, 3), (19, .aload_n 0, 1), (20, .getfield 28, 3), (23, .ldc2_w 60, 3), (26, .lcmp, 1), (27, .ifCond .eq 62, 3), (30, .aload_n 0, 1), (31, .getfield 28, 3), (34, .ldc2_w 62, 3), (37, .lcmp, 1), (38, .ifCond .eq 51, 3), (41, .aload_n 0, 1), (42, .getfield 28, 3), (45, .ldc2_w 64, 3), (48, .lcmp, 1), (49, .ifCond .eq 40, 3), (52, .aload_n 0, 1), (53, .getfield 28, 3), (56, .ldc2_w 66, 3), (59, .lcmp, 1), (60, .ifCond .eq 29, 3), (63, .aload_n 0, 1), (64, .getfield 28, 3), (67, .ldc2_w 68, 3), (70, .lcmp, 1), (71, .ifCond .eq 18, 3), (74, .aload_n 0, 1), (75, .getfield 28, 3), (78, .ldc2_w 70, 3), (81, .lcmp, 1), (82, .ifCond .eq 7, 3), (85, .iconst 1, 1), (86, .goto 4, 3), (89, .iconst 0, 1), (90, .ireturn, 1)] := allD_of (by decide +kernel)
def f9_isName (M : MM) (a0 : Nat) : Option (Int32 × MM) :=
  aO M a0 9 <|
  if (mI M a0 3) = (2 : Int32) then
    aO M a0 9 <|
    if (mJ M a0 5) = (495873782885 : Int64) then
      some ((0 : Int32), M)
    else
      aO M a0 9 <|
      if (mJ M a0 5) = (1936287598 : Int64) then
        some ((0 : Int32), M)
      else
        aO M a0 9 <|
        if (mJ M a0 5) = (1920298085 : Int64) then
          some ((0 : Int32), M)
        else
          aO M a0 9 <|
          if (mJ M a0 5) = (1735352684 : Int64) then
            some ((0 : Int32), M)
          else
            aO M a0 9 <|
            if (mJ M a0 5) = (29807 : Int64) then
              some ((0 : Int32), M)
            else
              aO M a0 9 <|
              if (mJ M a0 5) = (1668248436 : Int64) then
                some ((0 : Int32), M)
              else
                aO M a0 9 <|
                if (mJ M a0 5) = (1836020325 : Int64) then
                  some ((0 : Int32), M)
                else
                  some ((1 : Int32), M)
  else
    some ((0 : Int32), M)
set_option maxRecDepth 4000 in
theorem T9_isName (M : MM) (a0 : Nat) : ∀ q, f9_isName M a0 = some q → Run i9_isName [vr a0] M (Li q) := by
  obtain ⟨d0, d1, d4, d5, d8, d9, d12, d15, d16, d19, d20, d23, d26, d27, d30, d31, d34, d37, d38, d41, d42, d45, d48, d49, d52, d53, d56, d59, d60, d63, d64, d67, d70, d71, d74, d75, d78, d81, d82, d85, d86, d89, d90, -⟩ := dd9_isName
  refine Run_of_X (by decide) (Nat.le_of_ble_eq_true rfl) ?_
  show X Li i9_isName 0 [(0, vr a0)] [] M _
  unfold f9_isName
  refine X_aloadn 0 d0 rfl ?_
  refine X_getI d1 fg_x9_22 ?_
  refine X_iconst k_i_2 d4 ?_
  refine X_icmp_ne (t := 89) d5 rfl (fun h5 => ?_) (fun h5 => ?_)
  · refine X_aloadn 0 d8 rfl ?_
    refine X_getJ d9 fg_x9_28 ?_
    refine X_ldc2 kc_x9_58 d12 ?_
    refine X_lif_eq (t := 89) d15 d16 rfl (fun h15 => ?_) (fun h15 => ?_)
    · refine X_iconst k_i_0 d89 ?_
      exact X_zreturnc d90 rfl (by decide) rfl
    · refine X_aloadn 0 d19 rfl ?_
      refine X_getJ d20 fg_x9_28 ?_
      refine X_ldc2 kc_x9_60 d23 ?_
      refine X_lif_eq (t := 89) d26 d27 rfl (fun h26 => ?_) (fun h26 => ?_)
      · refine X_iconst k_i_0 d89 ?_
        exact X_zreturnc d90 rfl (by decide) rfl
      · refine X_aloadn 0 d30 rfl ?_
        refine X_getJ d31 fg_x9_28 ?_
        refine X_ldc2 kc_x9_62 d34 ?_
        refine X_lif_eq (t := 89) d37 d38 rfl (fun h37 => ?_) (fun h37 => ?_)
        · refine X_iconst k_i_0 d89 ?_
          exact X_zreturnc d90 rfl (by decide) rfl
        · refine X_aloadn 0 d41 rfl ?_
          refine X_getJ d42 fg_x9_28 ?_
          refine X_ldc2 kc_x9_64 d45 ?_
          refine X_lif_eq (t := 89) d48 d49 rfl (fun h48 => ?_) (fun h48 => ?_)
          · refine X_iconst k_i_0 d89 ?_
            exact X_zreturnc d90 rfl (by decide) rfl
          · refine X_aloadn 0 d52 rfl ?_
            refine X_getJ d53 fg_x9_28 ?_
            refine X_ldc2 kc_x9_66 d56 ?_
            refine X_lif_eq (t := 89) d59 d60 rfl (fun h59 => ?_) (fun h59 => ?_)
            · refine X_iconst k_i_0 d89 ?_
              exact X_zreturnc d90 rfl (by decide) rfl
            · refine X_aloadn 0 d63 rfl ?_
              refine X_getJ d64 fg_x9_28 ?_
              refine X_ldc2 kc_x9_68 d67 ?_
              refine X_lif_eq (t := 89) d70 d71 rfl (fun h70 => ?_) (fun h70 => ?_)
              · refine X_iconst k_i_0 d89 ?_
                exact X_zreturnc d90 rfl (by decide) rfl
              · refine X_aloadn 0 d74 rfl ?_
                refine X_getJ d75 fg_x9_28 ?_
                refine X_ldc2 kc_x9_70 d78 ?_
                refine X_lif_eq (t := 89) d81 d82 rfl (fun h81 => ?_) (fun h81 => ?_)
                · refine X_iconst k_i_0 d89 ?_
                  exact X_zreturnc d90 rfl (by decide) rfl
                · refine X_iconst k_i_1 d85 ?_
                  refine X_goto (t := 90) d86 rfl ?_
                  exact X_zreturnc d90 rfl (by decide) rfl
  · refine X_iconst k_i_0 d89 ?_
    exact X_zreturnc d90 rfl (by decide) rfl

theorem dd8_refuse : AllD (ib i8_refuse) [(0, .aload_n 0, 1), (1, .aload_n 0, 1), (2, .getfield 18, 3), (5, .getfield 35, 3), (8, .iconst 1, 1), (9, .if_icmp .ne 7, 3), (12, .iconst 1, 1), (13, .goto 4, 3), (16, .iconst 2, 1), (17, .invokevirtual 104, 3), (20, .ireturn, 1)] := allD_of (by decide +kernel)
def f8_refuse (M : MM) (a0 : Nat) : Option (Int32 × MM) :=
  aO M a0 8 <|
  aO M (mR M a0 0) 9 <|
  if (mI M (mR M a0 0) 3) = (1 : Int32) then
    aO M a0 8 <|
    cI (f8_fail M a0 (1 : Int32)) fun r17 M17 =>
    gd (r17 = 0 ∨ r17 = 1) <|
    some (r17, M17)
  else
    aO M a0 8 <|
    cI (f8_fail M a0 (2 : Int32)) fun r17 M17 =>
    gd (r17 = 0 ∨ r17 = 1) <|
    some (r17, M17)
set_option maxRecDepth 4000 in
theorem T8_refuse (M : MM) (a0 : Nat) : ∀ q, f8_refuse M a0 = some q → Run i8_refuse [vr a0] M (Li q) := by
  obtain ⟨d0, d1, d2, d5, d8, d9, d12, d13, d16, d17, d20, -⟩ := dd8_refuse
  refine Run_of_X (by decide) (Nat.le_of_ble_eq_true rfl) ?_
  show X Li i8_refuse 0 [(0, vr a0)] [] M _
  unfold f8_refuse
  refine X_aloadn 0 d0 rfl ?_
  refine X_aloadn 0 d1 rfl ?_
  refine X_getR d2 fg_x8_18 ?_
  refine X_getI d5 fg_x8_35 ?_
  refine X_iconst k_i_1 d8 ?_
  refine X_icmp_ne (t := 16) d9 rfl (fun h9 => ?_) (fun h9 => ?_)
  · refine X_iconst k_i_1 d12 ?_
    refine X_goto (t := 17) d13 rfl ?_
    refine X_cVi (as := [vi (1 : Int32)]) d17 cv_x8_104 ⟨by decide, by decide⟩ rfl (Nat.le_of_ble_eq_true rfl) (T8_fail M a0 (1 : Int32)) (fun r17 M17 _ => ?_)
    exact X_zreturn d20 rfl rfl
  · refine X_iconst k_i_2 d16 ?_
    refine X_cVi (as := [vi (2 : Int32)]) d17 cv_x8_104 ⟨by decide, by decide⟩ rfl (Nat.le_of_ble_eq_true rfl) (T8_fail M a0 (2 : Int32)) (fun r17 M17 _ => ?_)
    exact X_zreturn d20 rfl rfl

theorem dd8_isNewName_b51 : AllD (ib i8_isNewName) [(51, .iconst 1, 1), (52, .goto 4, 3)] := allD_of (by decide +kernel)
def f8_isNewName_b51 (K56 : MM → Nat → Int32 → Option (Int32 × MM)) (M : MM) (a0 : Nat) : Option (Int32 × MM) :=
  K56 M a0 (1 : Int32)
set_option maxRecDepth 4000 in
theorem T8_isNewName_b51 {K56 : MM → Nat → Int32 → Option (Int32 × MM)} (hK56 : ∀ (M : MM) (a0 : Nat) (s0 : Int32), X Li i8_isNewName 56 [(0, vr a0)] [vi s0] M (K56 M a0 s0)) : ∀ (M : MM) (a0 : Nat), X Li i8_isNewName 51 [(0, vr a0)] [] M (f8_isNewName_b51 K56 M a0) := by
  obtain ⟨d51, d52, -⟩ := dd8_isNewName_b51
  intro M a0
  unfold f8_isNewName_b51
  refine X_iconst k_i_1 d51 ?_
  refine X_goto (t := 56) d52 rfl ?_
  exact hK56 M a0 (1 : Int32)

theorem dd8_isNewName_b56 : AllD (ib i8_isNewName) [(56, .istore_n 1, 1), (57, .iload_n 1, 1), (58, .ifCond .eq 11, 3), (61, .aload_n 0, 1), (62, .iconst 3, 1), (63, .invokevirtual 104, 3), (66, .goto 4, 3), (69, .iconst 1, 1), (70, .ireturn, 1)] := allD_of (by decide +kernel)
def f8_isNewName_b56 (M : MM) (a0 : Nat) (s0 : Int32) : Option (Int32 × MM) :=
  if s0 = 0 then
    some ((1 : Int32), M)
  else
    aO M a0 8 <|
    cI (f8_fail M a0 (3 : Int32)) fun r63 M63 =>
    gd (r63 = 0 ∨ r63 = 1) <|
    some (r63, M63)
set_option maxRecDepth 4000 in
theorem T8_isNewName_b56 : ∀ (M : MM) (a0 : Nat) (s0 : Int32), X Li i8_isNewName 56 [(0, vr a0)] [vi s0] M (f8_isNewName_b56 M a0 s0) := by
  obtain ⟨d56, d57, d58, d61, d62, d63, d66, d69, d70, -⟩ := dd8_isNewName_b56
  intro M a0 s0
  unfold f8_isNewName_b56
  refine X_istoren (lv' := [(1, vi s0), (0, vr a0)]) d56 (by decide) rfl ?_
  refine X_iloadn 0 d57 rfl ?_
  refine X_if_eq (t := 69) d58 rfl (fun h58 => ?_) (fun h58 => ?_)
  · refine X_iconst k_i_1 d69 ?_
    exact X_zreturnc d70 rfl (by decide) rfl
  · refine X_aloadn 1 d61 rfl ?_
    refine X_iconst k_i_3 d62 ?_
    refine X_cVi (as := [vi (3 : Int32)]) d63 cv_x8_104 ⟨by decide, by decide⟩ rfl (Nat.le_of_ble_eq_true rfl) (T8_fail M a0 (3 : Int32)) (fun r63 M63 _ => ?_)
    refine X_goto (t := 70) d66 rfl ?_
    exact X_zreturn d70 rfl rfl

theorem dd8_isNewName : AllD (ib i8_isNewName) [(0, .aload_n 0, 1), (1, .getfield 18, 3), (4, .invokevirtual 130, 3), (7, .ifCond .ne 8, 3), (10, .aload_n 0, 1), (11, .invokevirtual 65, 3), (14, .ireturn, 1), (15, .aload_n 0, 1), (16, .getfield 22, 3), (19, .aload_n 0, 1), (20, .getfield 18, 3), (23, .getfield 73, 3), (26, .invokevirtual 77, 3), (29, .iconst (-1), 1), (30, .if_icmp .ne 21, 3), (33, .aload_n 0, 1), (34, .getfield 22, 3), (37, .aload_n 0, 1), (38, .getfield 18, 3), (41, .getfield 73, 3), (44, .invokevirtual 85, 3), (47, .iconst (-1), 1), (48, .if_icmp .eq 7, 3), (55, .iconst 0, 1)] := allD_of (by decide +kernel)
def f8_isNewName (M : MM) (a0 : Nat) : Option (Int32 × MM) :=
  aO M a0 8 <|
  aO M (mR M a0 0) 9 <|
  cI (f9_isName M (mR M a0 0)) fun r4 M4 =>
  if r4 = 0 then
    aO M4 a0 8 <|
    cI (f8_refuse M4 a0) fun r11 M11 =>
    gd (r11 = 0 ∨ r11 = 1) <|
    some (r11, M11)
  else
    aO M4 a0 8 <|
    aO M4 a0 8 <|
    aO M4 (mR M4 a0 0) 9 <|
    aO M4 (mR M4 a0 1) 7 <|
    cI (f7_stateNamed M4 (mR M4 a0 1) (mJ M4 (mR M4 a0 0) 5)) fun r26 M26 =>
    if r26 = (-1 : Int32) then
      aO M26 a0 8 <|
      aO M26 a0 8 <|
      aO M26 (mR M26 a0 0) 9 <|
      aO M26 (mR M26 a0 1) 7 <|
      cI (f7_signNamed M26 (mR M26 a0 1) (mJ M26 (mR M26 a0 0) 5)) fun r44 M44 =>
      if r44 = (-1 : Int32) then
        f8_isNewName_b56 M44 a0 (0 : Int32)
      else
        (f8_isNewName_b51 f8_isNewName_b56) M44 a0
    else
      (f8_isNewName_b51 f8_isNewName_b56) M26 a0
set_option maxRecDepth 4000 in
theorem T8_isNewName (M : MM) (a0 : Nat) : ∀ q, f8_isNewName M a0 = some q → Run i8_isNewName [vr a0] M (Li q) := by
  obtain ⟨d0, d1, d4, d7, d10, d11, d14, d15, d16, d19, d20, d23, d26, d29, d30, d33, d34, d37, d38, d41, d44, d47, d48, d55, -⟩ := dd8_isNewName
  refine Run_of_X (by decide) (Nat.le_of_ble_eq_true rfl) ?_
  show X Li i8_isNewName 0 [(0, vr a0)] [] M _
  unfold f8_isNewName
  refine X_aloadn 0 d0 rfl ?_
  refine X_getR d1 fg_x8_18 ?_
  refine X_cVi (as := []) d4 cv_x8_130 ⟨by decide, by decide⟩ rfl (Nat.le_of_ble_eq_true rfl) (T9_isName M (mR M a0 0)) (fun r4 M4 _ => ?_)
  refine X_if_ne (t := 15) d7 rfl (fun h7 => ?_) (fun h7 => ?_)
  · refine X_aloadn 0 d10 rfl ?_
    refine X_cVi (as := []) d11 cv_x8_65 ⟨by decide, by decide⟩ rfl (Nat.le_of_ble_eq_true rfl) (T8_refuse M4 a0) (fun r11 M11 _ => ?_)
    exact X_zreturn d14 rfl rfl
  · refine X_aloadn 0 d15 rfl ?_
    refine X_getR d16 fg_x8_22 ?_
    refine X_aloadn 0 d19 rfl ?_
    refine X_getR d20 fg_x8_18 ?_
    refine X_getJ d23 fg_x8_73 ?_
    refine X_cVi (as := [vl (mJ M4 (mR M4 a0 0) 5)]) d26 cv_x8_77 ⟨by decide, by decide⟩ rfl (Nat.le_of_ble_eq_true rfl) (T7_stateNamed M4 (mR M4 a0 1) (mJ M4 (mR M4 a0 0) 5)) (fun r26 M26 _ => ?_)
    refine X_iconst k_i_m1 d29 ?_
    refine X_icmp_ne (t := 51) d30 rfl (fun h30 => ?_) (fun h30 => ?_)
    · refine X_aloadn 0 d33 rfl ?_
      refine X_getR d34 fg_x8_22 ?_
      refine X_aloadn 0 d37 rfl ?_
      refine X_getR d38 fg_x8_18 ?_
      refine X_getJ d41 fg_x8_73 ?_
      refine X_cVi (as := [vl (mJ M26 (mR M26 a0 0) 5)]) d44 cv_x8_85 ⟨by decide, by decide⟩ rfl (Nat.le_of_ble_eq_true rfl) (T7_signNamed M26 (mR M26 a0 1) (mJ M26 (mR M26 a0 0) 5)) (fun r44 M44 _ => ?_)
      refine X_iconst k_i_m1 d47 ?_
      refine X_icmp_eq (t := 55) d48 rfl (fun h48 => ?_) (fun h48 => ?_)
      · refine X_iconst k_i_0 d55 ?_
        exact T8_isNewName_b56 M44 a0 (0 : Int32)
      · exact (T8_isNewName_b51 T8_isNewName_b56) M44 a0
    · exact (T8_isNewName_b51 T8_isNewName_b56) M26 a0

theorem dd8_takeNamed : AllD (ib i8_takeNamed) [(0, .aload_n 0, 1), (1, .getfield 18, 3), (4, .invokevirtual 130, 3), (7, .ifCond .ne 10, 3), (10, .aload_n 0, 1), (11, .invokevirtual 65, 3), (14, .pop, 1), (15, .iconst (-1), 1), (16, .ireturn, 1), (17, .iload_n 1, 1), (18, .iconst (-1), 1), (19, .if_icmp .ne 11, 3), (22, .aload_n 0, 1), (23, .iconst 3, 1), (24, .invokevirtual 104, 3), (27, .pop, 1), (28, .iconst (-1), 1), (29, .ireturn, 1), (30, .aload_n 0, 1), (31, .getfield 18, 3), (34, .invokevirtual 111, 3), (37, .iload_n 1, 1), (38, .ireturn, 1)] := allD_of (by decide +kernel)
def f8_takeNamed (M : MM) (a0 : Nat) (a1 : Int32) : Option (Int32 × MM) :=
  aO M a0 8 <|
  aO M (mR M a0 0) 9 <|
  cI (f9_isName M (mR M a0 0)) fun r4 M4 =>
  if r4 = 0 then
    aO M4 a0 8 <|
    cI (f8_refuse M4 a0) fun r11 M11 =>
    some ((-1 : Int32), M11)
  else
    if a1 = (-1 : Int32) then
      aO M4 a0 8 <|
      cI (f8_fail M4 a0 (3 : Int32)) fun r24 M24 =>
      some ((-1 : Int32), M24)
    else
      aO M4 a0 8 <|
      aO M4 (mR M4 a0 0) 9 <|
      cV (f9_takeNext M4 (mR M4 a0 0)) fun M34 =>
      some (a1, M34)
set_option maxRecDepth 4000 in
theorem T8_takeNamed (M : MM) (a0 : Nat) (a1 : Int32) : ∀ q, f8_takeNamed M a0 a1 = some q → Run i8_takeNamed [vr a0, vi a1] M (Li q) := by
  obtain ⟨d0, d1, d4, d7, d10, d11, d14, d15, d16, d17, d18, d19, d22, d23, d24, d27, d28, d29, d30, d31, d34, d37, d38, -⟩ := dd8_takeNamed
  refine Run_of_X (by decide) (Nat.le_of_ble_eq_true rfl) ?_
  show X Li i8_takeNamed 0 [(0, vr a0), (1, vi a1)] [] M _
  unfold f8_takeNamed
  refine X_aloadn 0 d0 rfl ?_
  refine X_getR d1 fg_x8_18 ?_
  refine X_cVi (as := []) d4 cv_x8_130 ⟨by decide, by decide⟩ rfl (Nat.le_of_ble_eq_true rfl) (T9_isName M (mR M a0 0)) (fun r4 M4 _ => ?_)
  refine X_if_ne (t := 17) d7 rfl (fun h7 => ?_) (fun h7 => ?_)
  · refine X_aloadn 0 d10 rfl ?_
    refine X_cVi (as := []) d11 cv_x8_65 ⟨by decide, by decide⟩ rfl (Nat.le_of_ble_eq_true rfl) (T8_refuse M4 a0) (fun r11 M11 _ => ?_)
    refine X_popi d14 ?_
    refine X_iconst k_i_m1 d15 ?_
    exact X_ireturn d16 rfl rfl
  · refine X_iloadn 1 d17 rfl ?_
    refine X_iconst k_i_m1 d18 ?_
    refine X_icmp_ne (t := 30) d19 rfl (fun h19 => ?_) (fun h19 => ?_)
    · refine X_aloadn 0 d22 rfl ?_
      refine X_iconst k_i_3 d23 ?_
      refine X_cVi (as := [vi (3 : Int32)]) d24 cv_x8_104 ⟨by decide, by decide⟩ rfl (Nat.le_of_ble_eq_true rfl) (T8_fail M4 a0 (3 : Int32)) (fun r24 M24 _ => ?_)
      refine X_popi d27 ?_
      refine X_iconst k_i_m1 d28 ?_
      exact X_ireturn d29 rfl rfl
    · refine X_aloadn 0 d30 rfl ?_
      refine X_getR d31 fg_x8_18 ?_
      refine X_cVv (as := []) d34 cv_x8_111 ⟨by decide, by decide⟩ rfl (Nat.le_of_ble_eq_true rfl) (T9_takeNext M4 (mR M4 a0 0)) (fun M34 _ => ?_)
      refine X_iloadn 1 d37 rfl ?_
      exact X_ireturn d38 rfl rfl

theorem dd8_readsGoalSigns_b61 : AllD (ib i8_readsGoalSigns) [(61, .aload_n 0, 1), (62, .getfield 22, 3), (65, .iload_n 1, 1), (66, .iconst 1, 1), (67, .iload_n 2, 1), (68, .invokevirtual 166, 3), (71, .iconst 1, 1), (72, .ireturn, 1)] := allD_of (by decide +kernel)
def f8_readsGoalSigns_b61 (M : MM) (a0 : Nat) (a1 : Int32) (a2 : Int32) : Option (Int32 × MM) :=
  aO M a0 8 <|
  aO M (mR M a0 1) 7 <|
  cV (f7_setGoal M (mR M a0 1) a1 (1 : Int32) a2) fun M68 =>
  some ((1 : Int32), M68)
set_option maxRecDepth 4000 in
theorem T8_readsGoalSigns_b61 : ∀ (M : MM) (a0 : Nat) (a1 : Int32) (a2 : Int32), X Li i8_readsGoalSigns 61 [(0, vr a0), (1, vi a1), (2, vi a2)] [] M (f8_readsGoalSigns_b61 M a0 a1 a2) := by
  obtain ⟨d61, d62, d65, d66, d67, d68, d71, d72, -⟩ := dd8_readsGoalSigns_b61
  intro M a0 a1 a2
  unfold f8_readsGoalSigns_b61
  refine X_aloadn 0 d61 rfl ?_
  refine X_getR d62 fg_x8_22 ?_
  refine X_iloadn 1 d65 rfl ?_
  refine X_iconst k_i_1 d66 ?_
  refine X_iloadn 2 d67 rfl ?_
  refine X_cVv (as := [vi a1, vi (1 : Int32), vi a2]) d68 cv_x8_166 ⟨by decide, by decide⟩ rfl (Nat.le_of_ble_eq_true rfl) (T7_setGoal M (mR M a0 1) a1 (1 : Int32) a2) (fun M68 _ => ?_)
  refine X_iconst k_i_1 d71 ?_
  exact X_zreturnc d72 rfl (by decide) rfl

theorem dd8_readsGoalSigns_b2 : AllD (ib i8_readsGoalSigns) [(2, .iload_n 2, 1), (3, .iconst 3, 1), (4, .if_icmp .ge 57, 3), (7, .aload_n 0, 1), (8, .getfield 18, 3), (11, .invokevirtual 130, 3), (14, .ifCond .eq 47, 3), (17, .aload_n 0, 1), (18, .aload_n 0, 1), (19, .getfield 22, 3), (22, .aload_n 0, 1), (23, .getfield 18, 3), (26, .getfield 73, 3), (29, .invokevirtual 85, 3), (32, .invokevirtual 81, 3), (35, .istore_n 3, 1), (36, .iload_n 3, 1), (37, .iconst (-1), 1), (38, .if_icmp .ne 5, 3), (41, .iconst 0, 1), (42, .ireturn, 1), (43, .aload_n 0, 1), (44, .getfield 22, 3), (47, .iload_n 1, 1), (48, .iconst 3, 1), (49, .iload_n 2, 1), (50, .iadd, 1), (51, .iload_n 3, 1), (52, .invokevirtual 166, 3), (55, .iinc 2 1, 3), (58, .goto (-56), 3)] := allD_of (by decide +kernel)
def f8_readsGoalSigns_b2_body (rc : MM → Nat → Int32 → Int32 → Option (Int32 × MM)) (M : MM) (a0 : Nat) (a1 : Int32) (a2 : Int32) : Option (Int32 × MM) :=
  if (3 : Int32) ≤ a2 then
    f8_readsGoalSigns_b61 M a0 a1 a2
  else
    aO M a0 8 <|
    aO M (mR M a0 0) 9 <|
    cI (f9_isName M (mR M a0 0)) fun r11 M11 =>
    if r11 = 0 then
      f8_readsGoalSigns_b61 M11 a0 a1 a2
    else
      aO M11 a0 8 <|
      aO M11 a0 8 <|
      aO M11 (mR M11 a0 0) 9 <|
      aO M11 (mR M11 a0 1) 7 <|
      cI (f7_signNamed M11 (mR M11 a0 1) (mJ M11 (mR M11 a0 0) 5)) fun r29 M29 =>
      aO M29 a0 8 <|
      cI (f8_takeNamed M29 a0 r29) fun r32 M32 =>
      if r32 = (-1 : Int32) then
        some ((0 : Int32), M32)
      else
        aO M32 a0 8 <|
        aO M32 (mR M32 a0 1) 7 <|
        cV (f7_setGoal M32 (mR M32 a0 1) a1 ((3 : Int32) + a2) r32) fun M52 =>
        rc M52 a0 a1 (a2 + (1 : Int32))
def f8_readsGoalSigns_b2 : MM → Nat → Int32 → Int32 → Option (Int32 × MM) := LP4 (f8_readsGoalSigns_b2_body) FU
set_option maxRecDepth 4000 in
theorem T8_readsGoalSigns_b2 : ∀ (M : MM) (a0 : Nat) (a1 : Int32) (a2 : Int32), X Li i8_readsGoalSigns 2 [(0, vr a0), (1, vi a1), (2, vi a2)] [] M (f8_readsGoalSigns_b2 M a0 a1 a2) := by
  obtain ⟨d2, d3, d4, d7, d8, d11, d14, d17, d18, d19, d22, d23, d26, d29, d32, d35, d36, d37, d38, d41, d42, d43, d44, d47, d48, d49, d50, d51, d52, d55, d58, -⟩ := dd8_readsGoalSigns_b2
  refine LP4_i (P := fun M a0 a1 a2 o => X Li i8_readsGoalSigns 2 [(0, vr a0), (1, vi a1), (2, vi a2)] [] M o) (fun _ _ _ _ => X_none) (fun rc ih M a0 a1 a2 => ?_) FU
  unfold f8_readsGoalSigns_b2_body
  refine X_iloadn 2 d2 rfl ?_
  refine X_iconst k_i_3 d3 ?_
  refine X_icmp_ge (t := 61) d4 rfl (fun h4 => ?_) (fun h4 => ?_)
  · exact T8_readsGoalSigns_b61 M a0 a1 a2
  · refine X_aloadn 0 d7 rfl ?_
    refine X_getR d8 fg_x8_18 ?_
    refine X_cVi (as := []) d11 cv_x8_130 ⟨by decide, by decide⟩ rfl (Nat.le_of_ble_eq_true rfl) (T9_isName M (mR M a0 0)) (fun r11 M11 _ => ?_)
    refine X_if_eq (t := 61) d14 rfl (fun h14 => ?_) (fun h14 => ?_)
    · exact T8_readsGoalSigns_b61 M11 a0 a1 a2
    · refine X_aloadn 0 d17 rfl ?_
      refine X_aloadn 0 d18 rfl ?_
      refine X_getR d19 fg_x8_22 ?_
      refine X_aloadn 0 d22 rfl ?_
      refine X_getR d23 fg_x8_18 ?_
      refine X_getJ d26 fg_x8_73 ?_
      refine X_cVi (as := [vl (mJ M11 (mR M11 a0 0) 5)]) d29 cv_x8_85 ⟨by decide, by decide⟩ rfl (Nat.le_of_ble_eq_true rfl) (T7_signNamed M11 (mR M11 a0 1) (mJ M11 (mR M11 a0 0) 5)) (fun r29 M29 _ => ?_)
      refine X_cVi (as := [vi r29]) d32 cv_x8_81 ⟨by decide, by decide⟩ rfl (Nat.le_of_ble_eq_true rfl) (T8_takeNamed M29 a0 r29) (fun r32 M32 _ => ?_)
      refine X_istoren (lv' := [(3, vi r32), (0, vr a0), (1, vi a1), (2, vi a2)]) d35 (by decide) rfl ?_
      refine X_iloadn 0 d36 rfl ?_
      refine X_iconst k_i_m1 d37 ?_
      refine X_icmp_ne (t := 43) d38 rfl (fun h38 => ?_) (fun h38 => ?_)
      · refine X_iconst k_i_0 d41 ?_
        exact X_zreturnc d42 rfl (by decide) rfl
      · refine X_aloadn 1 d43 rfl ?_
        refine X_getR d44 fg_x8_22 ?_
        refine X_iloadn 2 d47 rfl ?_
        refine X_iconst k_i_3 d48 ?_
        refine X_iloadn 3 d49 rfl ?_
        refine X_iadd d50 ?_
        refine X_iloadn 0 d51 rfl ?_
        refine X_cVv (as := [vi a1, vi ((3 : Int32) + a2), vi r32]) d52 cv_x8_166 ⟨by decide, by decide⟩ rfl (Nat.le_of_ble_eq_true rfl) (T7_setGoal M32 (mR M32 a0 1) a1 ((3 : Int32) + a2) r32) (fun M52 _ => ?_)
        refine X_inc (lv' := [(2, vi (a2 + (1 : Int32))), (3, vi r32), (0, vr a0), (1, vi a1)]) 3 d55 k_i_1 rfl (by decide) rfl ?_
        refine X_goto (t := 2) d58 rfl ?_
        refine X_sub [2, 3, 0] rfl ?_
        exact ih M52 a0 a1 (a2 + (1 : Int32))

theorem dd8_readsGoalSigns : AllD (ib i8_readsGoalSigns) [(0, .iconst 0, 1), (1, .istore_n 2, 1)] := allD_of (by decide +kernel)
def f8_readsGoalSigns (M : MM) (a0 : Nat) (a1 : Int32) : Option (Int32 × MM) :=
  f8_readsGoalSigns_b2 M a0 a1 (0 : Int32)
set_option maxRecDepth 4000 in
theorem T8_readsGoalSigns (M : MM) (a0 : Nat) (a1 : Int32) : ∀ q, f8_readsGoalSigns M a0 a1 = some q → Run i8_readsGoalSigns [vr a0, vi a1] M (Li q) := by
  obtain ⟨d0, d1, -⟩ := dd8_readsGoalSigns
  refine Run_of_X (by decide) (Nat.le_of_ble_eq_true rfl) ?_
  show X Li i8_readsGoalSigns 0 [(0, vr a0), (1, vi a1)] [] M _
  unfold f8_readsGoalSigns
  refine X_iconst k_i_0 d0 ?_
  refine X_istoren (lv' := [(2, vi (0 : Int32)), (0, vr a0), (1, vi a1)]) d1 (by decide) rfl ?_
  refine X_sub [1, 2, 0] rfl ?_
  exact T8_readsGoalSigns_b2 M a0 a1 (0 : Int32)

theorem dd9_isWord : AllD (ib i9_isWord) [(0, .aload_n 0, 1), (1, .getfield 22, 3), (4, .iconst 2, 1), (5, .if_icmp .ne 16, 3), (8, .aload_n 0, 1), (9, .getfield 28, 3), (12, .lload_n 1, 1), (13, .lcmp, 1), (14, .ifCond .ne 7, 3), (17, .iconst 1, 1), (18, .goto 4, 3), (21, .iconst 0, 1), (22, .ireturn, 1)] := allD_of (by decide +kernel)
def f9_isWord (M : MM) (a0 : Nat) (a1 : Int64) : Option (Int32 × MM) :=
  aO M a0 9 <|
  if (mI M a0 3) = (2 : Int32) then
    aO M a0 9 <|
    if (mJ M a0 5) = a1 then
      some ((1 : Int32), M)
    else
      some ((0 : Int32), M)
  else
    some ((0 : Int32), M)
set_option maxRecDepth 4000 in
theorem T9_isWord (M : MM) (a0 : Nat) (a1 : Int64) : ∀ q, f9_isWord M a0 a1 = some q → Run i9_isWord [vr a0, vl a1] M (Li q) := by
  obtain ⟨d0, d1, d4, d5, d8, d9, d12, d13, d14, d17, d18, d21, d22, -⟩ := dd9_isWord
  refine Run_of_X (by decide) (Nat.le_of_ble_eq_true rfl) ?_
  show X Li i9_isWord 0 [(0, vr a0), (1, vl a1)] [] M _
  unfold f9_isWord
  refine X_aloadn 0 d0 rfl ?_
  refine X_getI d1 fg_x9_22 ?_
  refine X_iconst k_i_2 d4 ?_
  refine X_icmp_ne (t := 21) d5 rfl (fun h5 => ?_) (fun h5 => ?_)
  · refine X_aloadn 0 d8 rfl ?_
    refine X_getJ d9 fg_x9_28 ?_
    refine X_lloadn 1 d12 rfl ?_
    refine X_lif_ne (t := 21) d13 d14 rfl (fun h13 => ?_) (fun h13 => ?_)
    · refine X_iconst k_i_1 d17 ?_
      refine X_goto (t := 22) d18 rfl ?_
      exact X_zreturnc d22 rfl (by decide) rfl
    · refine X_iconst k_i_0 d21 ?_
      exact X_zreturnc d22 rfl (by decide) rfl
  · refine X_iconst k_i_0 d21 ?_
    exact X_zreturnc d22 rfl (by decide) rfl

theorem dd8_readsSemicolon : AllD (ib i8_readsSemicolon) [(0, .aload_n 0, 1), (1, .getfield 18, 3), (4, .getfield 35, 3), (7, .iconst 4, 1), (8, .if_icmp .eq 8, 3), (11, .aload_n 0, 1), (12, .invokevirtual 65, 3), (15, .ireturn, 1), (16, .aload_n 0, 1), (17, .getfield 18, 3), (20, .invokevirtual 111, 3), (23, .iconst 1, 1), (24, .ireturn, 1)] := allD_of (by decide +kernel)
def f8_readsSemicolon (M : MM) (a0 : Nat) : Option (Int32 × MM) :=
  aO M a0 8 <|
  aO M (mR M a0 0) 9 <|
  if (mI M (mR M a0 0) 3) = (4 : Int32) then
    aO M a0 8 <|
    aO M (mR M a0 0) 9 <|
    cV (f9_takeNext M (mR M a0 0)) fun M20 =>
    some ((1 : Int32), M20)
  else
    aO M a0 8 <|
    cI (f8_refuse M a0) fun r12 M12 =>
    gd (r12 = 0 ∨ r12 = 1) <|
    some (r12, M12)
set_option maxRecDepth 4000 in
theorem T8_readsSemicolon (M : MM) (a0 : Nat) : ∀ q, f8_readsSemicolon M a0 = some q → Run i8_readsSemicolon [vr a0] M (Li q) := by
  obtain ⟨d0, d1, d4, d7, d8, d11, d12, d15, d16, d17, d20, d23, d24, -⟩ := dd8_readsSemicolon
  refine Run_of_X (by decide) (Nat.le_of_ble_eq_true rfl) ?_
  show X Li i8_readsSemicolon 0 [(0, vr a0)] [] M _
  unfold f8_readsSemicolon
  refine X_aloadn 0 d0 rfl ?_
  refine X_getR d1 fg_x8_18 ?_
  refine X_getI d4 fg_x8_35 ?_
  refine X_iconst k_i_4 d7 ?_
  refine X_icmp_eq (t := 16) d8 rfl (fun h8 => ?_) (fun h8 => ?_)
  · refine X_aloadn 0 d16 rfl ?_
    refine X_getR d17 fg_x8_18 ?_
    refine X_cVv (as := []) d20 cv_x8_111 ⟨by decide, by decide⟩ rfl (Nat.le_of_ble_eq_true rfl) (T9_takeNext M (mR M a0 0)) (fun M20 _ => ?_)
    refine X_iconst k_i_1 d23 ?_
    exact X_zreturnc d24 rfl (by decide) rfl
  · refine X_aloadn 0 d11 rfl ?_
    refine X_cVi (as := []) d12 cv_x8_65 ⟨by decide, by decide⟩ rfl (Nat.le_of_ble_eq_true rfl) (T8_refuse M a0) (fun r12 M12 _ => ?_)
    exact X_zreturn d15 rfl rfl

theorem dd8_readsGoal_b116 : AllD (ib i8_readsGoal) [(116, .aload_n 0, 1), (117, .invokevirtual 121, 3), (120, .ifCond .ne 5, 3), (123, .iconst 0, 1), (124, .ireturn, 1), (125, .aload_n 0, 1), (126, .getfield 22, 3), (129, .dup, 1), (130, .getfield 163, 3), (133, .iconst 1, 1), (134, .iadd, 1), (135, .putfield 163, 3), (138, .iconst 1, 1), (139, .ireturn, 1)] := allD_of (by decide +kernel)
def f8_readsGoal_b116 (M : MM) (a0 : Nat) : Option (Int32 × MM) :=
  aO M a0 8 <|
  cI (f8_readsSemicolon M a0) fun r117 M117 =>
  if r117 = 0 then
    some ((0 : Int32), M117)
  else
    aO M117 a0 8 <|
    aO M117 (mR M117 a0 1) 7 <|
    aO M117 (mR M117 a0 1) 7 <|
    bM (sI M117 (mR M117 a0 1) 7 ((mI M117 (mR M117 a0 1) 7) + (1 : Int32))) fun M135 =>
    some ((1 : Int32), M135)
set_option maxRecDepth 4000 in
theorem T8_readsGoal_b116 : ∀ (M : MM) (a0 : Nat), X Li i8_readsGoal 116 [(0, vr a0)] [] M (f8_readsGoal_b116 M a0) := by
  obtain ⟨d116, d117, d120, d123, d124, d125, d126, d129, d130, d133, d134, d135, d138, d139, -⟩ := dd8_readsGoal_b116
  intro M a0
  unfold f8_readsGoal_b116
  refine X_aloadn 0 d116 rfl ?_
  refine X_cVi (as := []) d117 cv_x8_121 ⟨by decide, by decide⟩ rfl (Nat.le_of_ble_eq_true rfl) (T8_readsSemicolon M a0) (fun r117 M117 _ => ?_)
  refine X_if_ne (t := 125) d120 rfl (fun h120 => ?_) (fun h120 => ?_)
  · refine X_iconst k_i_0 d123 ?_
    exact X_zreturnc d124 rfl (by decide) rfl
  · refine X_aloadn 0 d125 rfl ?_
    refine X_getR d126 fg_x8_22 ?_
    refine X_dupr d129 ?_
    refine X_getI d130 fg_x8_163 ?_
    refine X_iconst k_i_1 d133 ?_
    refine X_iadd d134 ?_
    refine X_putI d135 fp_x8_163 ?_
    refine X_bM fun M135 _ => ?_
    refine X_iconst k_i_1 d138 ?_
    exact X_zreturnc d139 rfl (by decide) rfl

theorem dd8_readsGoal_b102 : AllD (ib i8_readsGoal) [(102, .invokevirtual 166, 3), (105, .iload_n 3, 1), (106, .ifCond .eq 10, 3), (109, .aload_n 0, 1), (110, .getfield 18, 3), (113, .invokevirtual 111, 3)] := allD_of (by decide +kernel)
def f8_readsGoal_b102 (M : MM) (a0 : Nat) (a3 : Int32) (s0 : Int32) (s1 : Int32) (s2 : Int32) (s3 : Nat) : Option (Int32 × MM) :=
  aO M s3 7 <|
  cV (f7_setGoal M s3 s2 s1 s0) fun M102 =>
  if a3 = 0 then
    f8_readsGoal_b116 M102 a0
  else
    aO M102 a0 8 <|
    aO M102 (mR M102 a0 0) 9 <|
    cV (f9_takeNext M102 (mR M102 a0 0)) fun M113 =>
    f8_readsGoal_b116 M113 a0
set_option maxRecDepth 4000 in
theorem T8_readsGoal_b102 : ∀ (M : MM) (a0 : Nat) (a3 : Int32) (s0 : Int32) (s1 : Int32) (s2 : Int32) (s3 : Nat), X Li i8_readsGoal 102 [(0, vr a0), (3, vi a3)] [vi s0, vi s1, vi s2, vr s3] M (f8_readsGoal_b102 M a0 a3 s0 s1 s2 s3) := by
  obtain ⟨d102, d105, d106, d109, d110, d113, -⟩ := dd8_readsGoal_b102
  intro M a0 a3 s0 s1 s2 s3
  unfold f8_readsGoal_b102
  refine X_cVv (as := [vi s2, vi s1, vi s0]) d102 cv_x8_166 ⟨by decide, by decide⟩ rfl (Nat.le_of_ble_eq_true rfl) (T7_setGoal M s3 s2 s1 s0) (fun M102 _ => ?_)
  refine X_iloadn 1 d105 rfl ?_
  refine X_if_eq (t := 116) d106 rfl (fun h106 => ?_) (fun h106 => ?_)
  · refine X_sub [0] rfl ?_
    exact T8_readsGoal_b116 M102 a0
  · refine X_aloadn 0 d109 rfl ?_
    refine X_getR d110 fg_x8_18 ?_
    refine X_cVv (as := []) d113 cv_x8_111 ⟨by decide, by decide⟩ rfl (Nat.le_of_ble_eq_true rfl) (T9_takeNext M102 (mR M102 a0 0)) (fun M113 _ => ?_)
    refine X_sub [0] rfl ?_
    exact T8_readsGoal_b116 M113 a0

theorem dd8_readsGoal : AllD (ib i8_readsGoal) [(0, .aload_n 0, 1), (1, .getfield 22, 3), (4, .getfield 163, 3), (7, .iconst 4, 1), (8, .if_icmp .lt 9, 3), (11, .aload_n 0, 1), (12, .iconst 5, 1), (13, .invokevirtual 104, 3), (16, .ireturn, 1), (17, .aload_n 0, 1), (18, .getfield 18, 3), (21, .invokevirtual 111, 3), (24, .aload_n 0, 1), (25, .getfield 22, 3), (28, .getfield 163, 3), (31, .istore_n 1, 1), (32, .aload_n 0, 1), (33, .aload_n 0, 1), (34, .getfield 22, 3), (37, .aload_n 0, 1), (38, .getfield 18, 3), (41, .getfield 73, 3), (44, .invokevirtual 77, 3), (47, .invokevirtual 81, 3), (50, .istore_n 2, 1), (51, .aload_n 0, 1), (52, .getfield 22, 3), (55, .iload_n 1, 1), (56, .iconst 0, 1), (57, .iload_n 2, 1), (58, .invokevirtual 166, 3), (61, .iload_n 2, 1), (62, .iconst (-1), 1), (63, .if_icmp .eq 11, 3), (66, .aload_n 0, 1), (67, .iload_n 1, 1), (68, .invokevirtual 169, 3), (71, .ifCond .ne 5, 3), (74, .iconst 0, 1), (75, .ireturn, 1), (76, .aload_n 0, 1), (77, .getfield 18, 3), (80, .ldc2_w 172, 3), (83, .invokevirtual 42, 3), (86, .istore_n 3, 1), (87, .aload_n 0, 1), (88, .getfield 22, 3), (91, .iload_n 1, 1), (92, .iconst 2, 1), (93, .iload_n 3, 1), (94, .ifCond .eq 7, 3), (97, .iconst 1, 1), (98, .goto 4, 3), (101, .iconst 0, 1)] := allD_of (by decide +kernel)
def f8_readsGoal (M : MM) (a0 : Nat) : Option (Int32 × MM) :=
  aO M a0 8 <|
  aO M (mR M a0 1) 7 <|
  if (mI M (mR M a0 1) 7) < (4 : Int32) then
    aO M a0 8 <|
    aO M (mR M a0 0) 9 <|
    cV (f9_takeNext M (mR M a0 0)) fun M21 =>
    aO M21 a0 8 <|
    aO M21 (mR M21 a0 1) 7 <|
    bW (mI M21 (mR M21 a0 1) 7) fun v31 =>
    aO M21 a0 8 <|
    aO M21 a0 8 <|
    aO M21 (mR M21 a0 0) 9 <|
    aO M21 (mR M21 a0 1) 7 <|
    cI (f7_stateNamed M21 (mR M21 a0 1) (mJ M21 (mR M21 a0 0) 5)) fun r44 M44 =>
    aO M44 a0 8 <|
    cI (f8_takeNamed M44 a0 r44) fun r47 M47 =>
    aO M47 a0 8 <|
    aO M47 (mR M47 a0 1) 7 <|
    cV (f7_setGoal M47 (mR M47 a0 1) v31 (0 : Int32) r47) fun M58 =>
    if r47 = (-1 : Int32) then
      some ((0 : Int32), M58)
    else
      aO M58 a0 8 <|
      cI (f8_readsGoalSigns M58 a0 v31) fun r68 M68 =>
      if r68 = 0 then
        some ((0 : Int32), M68)
      else
        aO M68 a0 8 <|
        aO M68 (mR M68 a0 0) 9 <|
        cI (f9_isWord M68 (mR M68 a0 0) (1836020325 : Int64)) fun r83 M83 =>
        aO M83 a0 8 <|
        if r83 = 0 then
          f8_readsGoal_b102 M83 a0 r83 (0 : Int32) (2 : Int32) v31 (mR M83 a0 1)
        else
          f8_readsGoal_b102 M83 a0 r83 (1 : Int32) (2 : Int32) v31 (mR M83 a0 1)
  else
    aO M a0 8 <|
    cI (f8_fail M a0 (5 : Int32)) fun r13 M13 =>
    gd (r13 = 0 ∨ r13 = 1) <|
    some (r13, M13)
set_option maxRecDepth 4000 in
theorem T8_readsGoal (M : MM) (a0 : Nat) : ∀ q, f8_readsGoal M a0 = some q → Run i8_readsGoal [vr a0] M (Li q) := by
  obtain ⟨d0, d1, d4, d7, d8, d11, d12, d13, d16, d17, d18, d21, d24, d25, d28, d31, d32, d33, d34, d37, d38, d41, d44, d47, d50, d51, d52, d55, d56, d57, d58, d61, d62, d63, d66, d67, d68, d71, d74, d75, d76, d77, d80, d83, d86, d87, d88, d91, d92, d93, d94, d97, d98, d101, -⟩ := dd8_readsGoal
  refine Run_of_X (by decide) (Nat.le_of_ble_eq_true rfl) ?_
  show X Li i8_readsGoal 0 [(0, vr a0)] [] M _
  unfold f8_readsGoal
  refine X_aloadn 0 d0 rfl ?_
  refine X_getR d1 fg_x8_22 ?_
  refine X_getI d4 fg_x8_163 ?_
  refine X_iconst k_i_4 d7 ?_
  refine X_icmp_lt (t := 17) d8 rfl (fun h8 => ?_) (fun h8 => ?_)
  · refine X_aloadn 0 d17 rfl ?_
    refine X_getR d18 fg_x8_18 ?_
    refine X_cVv (as := []) d21 cv_x8_111 ⟨by decide, by decide⟩ rfl (Nat.le_of_ble_eq_true rfl) (T9_takeNext M (mR M a0 0)) (fun M21 _ => ?_)
    refine X_aloadn 0 d24 rfl ?_
    refine X_getR d25 fg_x8_22 ?_
    refine X_getI d28 fg_x8_163 ?_
    refine X_bWi fun v31 _ => ?_
    refine X_istoren (lv' := [(1, vi v31), (0, vr a0)]) d31 (by decide) rfl ?_
    refine X_aloadn 1 d32 rfl ?_
    refine X_aloadn 1 d33 rfl ?_
    refine X_getR d34 fg_x8_22 ?_
    refine X_aloadn 1 d37 rfl ?_
    refine X_getR d38 fg_x8_18 ?_
    refine X_getJ d41 fg_x8_73 ?_
    refine X_cVi (as := [vl (mJ M21 (mR M21 a0 0) 5)]) d44 cv_x8_77 ⟨by decide, by decide⟩ rfl (Nat.le_of_ble_eq_true rfl) (T7_stateNamed M21 (mR M21 a0 1) (mJ M21 (mR M21 a0 0) 5)) (fun r44 M44 _ => ?_)
    refine X_cVi (as := [vi r44]) d47 cv_x8_81 ⟨by decide, by decide⟩ rfl (Nat.le_of_ble_eq_true rfl) (T8_takeNamed M44 a0 r44) (fun r47 M47 _ => ?_)
    refine X_istoren (lv' := [(2, vi r47), (1, vi v31), (0, vr a0)]) d50 (by decide) rfl ?_
    refine X_aloadn 2 d51 rfl ?_
    refine X_getR d52 fg_x8_22 ?_
    refine X_iloadn 1 d55 rfl ?_
    refine X_iconst k_i_0 d56 ?_
    refine X_iloadn 0 d57 rfl ?_
    refine X_cVv (as := [vi v31, vi (0 : Int32), vi r47]) d58 cv_x8_166 ⟨by decide, by decide⟩ rfl (Nat.le_of_ble_eq_true rfl) (T7_setGoal M47 (mR M47 a0 1) v31 (0 : Int32) r47) (fun M58 _ => ?_)
    refine X_iloadn 0 d61 rfl ?_
    refine X_iconst k_i_m1 d62 ?_
    refine X_icmp_eq (t := 74) d63 rfl (fun h63 => ?_) (fun h63 => ?_)
    · refine X_iconst k_i_0 d74 ?_
      exact X_zreturnc d75 rfl (by decide) rfl
    · refine X_aloadn 2 d66 rfl ?_
      refine X_iloadn 1 d67 rfl ?_
      refine X_cVi (as := [vi v31]) d68 cv_x8_169 ⟨by decide, by decide⟩ rfl (Nat.le_of_ble_eq_true rfl) (T8_readsGoalSigns M58 a0 v31) (fun r68 M68 _ => ?_)
      refine X_if_ne (t := 76) d71 rfl (fun h71 => ?_) (fun h71 => ?_)
      · refine X_iconst k_i_0 d74 ?_
        exact X_zreturnc d75 rfl (by decide) rfl
      · refine X_aloadn 2 d76 rfl ?_
        refine X_getR d77 fg_x8_18 ?_
        refine X_ldc2 kc_x8_172 d80 ?_
        refine X_cVi (as := [vl (1836020325 : Int64)]) d83 cv_x8_42 ⟨by decide, by decide⟩ rfl (Nat.le_of_ble_eq_true rfl) (T9_isWord M68 (mR M68 a0 0) (1836020325 : Int64)) (fun r83 M83 _ => ?_)
        refine X_istoren (lv' := [(3, vi r83), (2, vi r47), (1, vi v31), (0, vr a0)]) d86 (by decide) rfl ?_
        refine X_aloadn 3 d87 rfl ?_
        refine X_getR d88 fg_x8_22 ?_
        refine X_iloadn 2 d91 rfl ?_
        refine X_iconst k_i_2 d92 ?_
        refine X_iloadn 0 d93 rfl ?_
        refine X_if_eq (t := 101) d94 rfl (fun h94 => ?_) (fun h94 => ?_)
        · refine X_iconst k_i_0 d101 ?_
          refine X_sub [3, 0] rfl ?_
          exact T8_readsGoal_b102 M83 a0 r83 (0 : Int32) (2 : Int32) v31 (mR M83 a0 1)
        · refine X_iconst k_i_1 d97 ?_
          refine X_goto (t := 102) d98 rfl ?_
          refine X_sub [3, 0] rfl ?_
          exact T8_readsGoal_b102 M83 a0 r83 (1 : Int32) (2 : Int32) v31 (mR M83 a0 1)
  · refine X_aloadn 0 d11 rfl ?_
    refine X_iconst k_i_5 d12 ?_
    refine X_cVi (as := [vi (5 : Int32)]) d13 cv_x8_104 ⟨by decide, by decide⟩ rfl (Nat.le_of_ble_eq_true rfl) (T8_fail M a0 (5 : Int32)) (fun r13 M13 _ => ?_)
    exact X_zreturn d16 rfl rfl

theorem dd8_readsPlace_b95 : AllD (ib i8_readsPlace) [(95, .aload_n 0, 1), (96, .getfield 18, 3), (99, .getfield 35, 3), (102, .ifCond .eq 8, 3), (105, .aload_n 0, 1), (106, .invokevirtual 65, 3), (109, .ireturn, 1), (110, .aload_n 2, 1), (111, .iload_n 3, 1), (112, .putfield 92, 3), (115, .aload_n 2, 1), (116, .invokevirtual 95, 3), (119, .iconst 1, 1), (120, .ireturn, 1)] := allD_of (by decide +kernel)
def f8_readsPlace_b95 (M : MM) (a0 : Nat) (a2 : Nat) (a3 : Int32) : Option (Int32 × MM) :=
  aO M a0 8 <|
  aO M (mR M a0 0) 9 <|
  if (mI M (mR M a0 0) 3) = 0 then
    aO M a2 6 <|
    bM (sI M a2 2 a3) fun M112 =>
    aO M112 a2 6 <|
    cV (f6_turnOver M112 a2) fun M116 =>
    some ((1 : Int32), M116)
  else
    aO M a0 8 <|
    cI (f8_refuse M a0) fun r106 M106 =>
    gd (r106 = 0 ∨ r106 = 1) <|
    some (r106, M106)
set_option maxRecDepth 4000 in
theorem T8_readsPlace_b95 : ∀ (M : MM) (a0 : Nat) (a2 : Nat) (a3 : Int32), X Li i8_readsPlace 95 [(0, vr a0), (2, vr a2), (3, vi a3)] [] M (f8_readsPlace_b95 M a0 a2 a3) := by
  obtain ⟨d95, d96, d99, d102, d105, d106, d109, d110, d111, d112, d115, d116, d119, d120, -⟩ := dd8_readsPlace_b95
  intro M a0 a2 a3
  unfold f8_readsPlace_b95
  refine X_aloadn 0 d95 rfl ?_
  refine X_getR d96 fg_x8_18 ?_
  refine X_getI d99 fg_x8_35 ?_
  refine X_if_eq (t := 110) d102 rfl (fun h102 => ?_) (fun h102 => ?_)
  · refine X_aloadn 1 d110 rfl ?_
    refine X_iloadn 2 d111 rfl ?_
    refine X_putI d112 fp_x8_92 ?_
    refine X_bM fun M112 _ => ?_
    refine X_aloadn 1 d115 rfl ?_
    refine X_cVv (as := []) d116 cv_x8_95 ⟨by decide, by decide⟩ rfl (Nat.le_of_ble_eq_true rfl) (T6_turnOver M112 a2) (fun M116 _ => ?_)
    refine X_iconst k_i_1 d119 ?_
    exact X_zreturnc d120 rfl (by decide) rfl
  · refine X_aloadn 0 d105 rfl ?_
    refine X_cVi (as := []) d106 cv_x8_65 ⟨by decide, by decide⟩ rfl (Nat.le_of_ble_eq_true rfl) (T8_refuse M a0) (fun r106 M106 _ => ?_)
    exact X_zreturn d109 rfl rfl

theorem dd8_readsPlace_b38 : AllD (ib i8_readsPlace) [(38, .iload 4, 2), (40, .bipush 40, 2), (42, .if_icmp .ge 53, 3), (45, .aload_n 0, 1), (46, .getfield 18, 3), (49, .getfield 35, 3), (52, .ifCond .eq 43, 3), (55, .aload_n 0, 1), (56, .aload_n 0, 1), (57, .getfield 22, 3), (60, .aload_n 0, 1), (61, .getfield 18, 3), (64, .getfield 73, 3), (67, .invokevirtual 85, 3), (70, .invokevirtual 81, 3), (73, .istore 5, 2), (75, .iload 5, 2), (77, .iconst (-1), 1), (78, .if_icmp .ne 5, 3), (81, .iconst 0, 1), (82, .ireturn, 1), (83, .aload_n 2, 1), (84, .iload 5, 2), (86, .invokevirtual 88, 3), (89, .iinc 4 1, 3), (92, .goto (-54), 3)] := allD_of (by decide +kernel)
def f8_readsPlace_b38_body (rc : MM → Nat → Nat → Int32 → Int32 → Option (Int32 × MM)) (M : MM) (a0 : Nat) (a2 : Nat) (a3 : Int32) (a4 : Int32) : Option (Int32 × MM) :=
  if (40 : Int32) ≤ a4 then
    f8_readsPlace_b95 M a0 a2 a3
  else
    aO M a0 8 <|
    aO M (mR M a0 0) 9 <|
    if (mI M (mR M a0 0) 3) = 0 then
      f8_readsPlace_b95 M a0 a2 a3
    else
      aO M a0 8 <|
      aO M a0 8 <|
      aO M (mR M a0 0) 9 <|
      aO M (mR M a0 1) 7 <|
      cI (f7_signNamed M (mR M a0 1) (mJ M (mR M a0 0) 5)) fun r67 M67 =>
      aO M67 a0 8 <|
      cI (f8_takeNamed M67 a0 r67) fun r70 M70 =>
      if r70 = (-1 : Int32) then
        some ((0 : Int32), M70)
      else
        aO M70 a2 6 <|
        cV (f6_push M70 a2 r70) fun M86 =>
        rc M86 a0 a2 a3 (a4 + (1 : Int32))
def f8_readsPlace_b38 : MM → Nat → Nat → Int32 → Int32 → Option (Int32 × MM) := LP5 (f8_readsPlace_b38_body) FU
set_option maxRecDepth 4000 in
theorem T8_readsPlace_b38 : ∀ (M : MM) (a0 : Nat) (a2 : Nat) (a3 : Int32) (a4 : Int32), X Li i8_readsPlace 38 [(0, vr a0), (2, vr a2), (3, vi a3), (4, vi a4)] [] M (f8_readsPlace_b38 M a0 a2 a3 a4) := by
  obtain ⟨d38, d40, d42, d45, d46, d49, d52, d55, d56, d57, d60, d61, d64, d67, d70, d73, d75, d77, d78, d81, d82, d83, d84, d86, d89, d92, -⟩ := dd8_readsPlace_b38
  refine LP5_i (P := fun M a0 a2 a3 a4 o => X Li i8_readsPlace 38 [(0, vr a0), (2, vr a2), (3, vi a3), (4, vi a4)] [] M o) (fun _ _ _ _ _ => X_none) (fun rc ih M a0 a2 a3 a4 => ?_) FU
  unfold f8_readsPlace_b38_body
  refine X_iload 3 d38 rfl ?_
  refine X_bipush k_b_40 d40 ?_
  refine X_icmp_ge (t := 95) d42 rfl (fun h42 => ?_) (fun h42 => ?_)
  · refine X_sub [0, 1, 2] rfl ?_
    exact T8_readsPlace_b95 M a0 a2 a3
  · refine X_aloadn 0 d45 rfl ?_
    refine X_getR d46 fg_x8_18 ?_
    refine X_getI d49 fg_x8_35 ?_
    refine X_if_eq (t := 95) d52 rfl (fun h52 => ?_) (fun h52 => ?_)
    · refine X_sub [0, 1, 2] rfl ?_
      exact T8_readsPlace_b95 M a0 a2 a3
    · refine X_aloadn 0 d55 rfl ?_
      refine X_aloadn 0 d56 rfl ?_
      refine X_getR d57 fg_x8_22 ?_
      refine X_aloadn 0 d60 rfl ?_
      refine X_getR d61 fg_x8_18 ?_
      refine X_getJ d64 fg_x8_73 ?_
      refine X_cVi (as := [vl (mJ M (mR M a0 0) 5)]) d67 cv_x8_85 ⟨by decide, by decide⟩ rfl (Nat.le_of_ble_eq_true rfl) (T7_signNamed M (mR M a0 1) (mJ M (mR M a0 0) 5)) (fun r67 M67 _ => ?_)
      refine X_cVi (as := [vi r67]) d70 cv_x8_81 ⟨by decide, by decide⟩ rfl (Nat.le_of_ble_eq_true rfl) (T8_takeNamed M67 a0 r67) (fun r70 M70 _ => ?_)
      refine X_istore (lv' := [(5, vi r70), (0, vr a0), (2, vr a2), (3, vi a3), (4, vi a4)]) d73 (by decide) rfl ?_
      refine X_iload 0 d75 rfl ?_
      refine X_iconst k_i_m1 d77 ?_
      refine X_icmp_ne (t := 83) d78 rfl (fun h78 => ?_) (fun h78 => ?_)
      · refine X_iconst k_i_0 d81 ?_
        exact X_zreturnc d82 rfl (by decide) rfl
      · refine X_aloadn 2 d83 rfl ?_
        refine X_iload 0 d84 rfl ?_
        refine X_cVv (as := [vi r70]) d86 cv_x8_88 ⟨by decide, by decide⟩ rfl (Nat.le_of_ble_eq_true rfl) (T6_push M70 a2 r70) (fun M86 _ => ?_)
        refine X_inc (lv' := [(4, vi (a4 + (1 : Int32))), (5, vi r70), (0, vr a0), (2, vr a2), (3, vi a3)]) 4 d89 k_i_1 rfl (by decide) rfl ?_
        refine X_goto (t := 38) d92 rfl ?_
        refine X_sub [2, 3, 4, 0] rfl ?_
        exact ih M86 a0 a2 a3 (a4 + (1 : Int32))

theorem dd8_readsPlace : AllD (ib i8_readsPlace) [(0, .aload_n 0, 1), (1, .aload_n 1, 1), (2, .invokevirtual 26, 3), (5, .aload_n 2, 1), (6, .invokevirtual 68, 3), (9, .aload_n 0, 1), (10, .aload_n 0, 1), (11, .getfield 22, 3), (14, .aload_n 0, 1), (15, .getfield 18, 3), (18, .getfield 73, 3), (21, .invokevirtual 77, 3), (24, .invokevirtual 81, 3), (27, .istore_n 3, 1), (28, .iload_n 3, 1), (29, .iconst (-1), 1), (30, .if_icmp .ne 5, 3), (33, .iconst 0, 1), (34, .ireturn, 1), (35, .iconst 0, 1), (36, .istore 4, 2)] := allD_of (by decide +kernel)
def f8_readsPlace (M : MM) (a0 : Nat) (a1 : Nat) (a2 : Nat) : Option (Int32 × MM) :=
  aO M a0 8 <|
  cV (f8_begin M a0 a1) fun M2 =>
  aO M2 a2 6 <|
  cV (f6_forget M2 a2) fun M6 =>
  aO M6 a0 8 <|
  aO M6 a0 8 <|
  aO M6 (mR M6 a0 0) 9 <|
  aO M6 (mR M6 a0 1) 7 <|
  cI (f7_stateNamed M6 (mR M6 a0 1) (mJ M6 (mR M6 a0 0) 5)) fun r21 M21 =>
  aO M21 a0 8 <|
  cI (f8_takeNamed M21 a0 r21) fun r24 M24 =>
  if r24 = (-1 : Int32) then
    some ((0 : Int32), M24)
  else
    f8_readsPlace_b38 M24 a0 a2 r24 (0 : Int32)
set_option maxRecDepth 4000 in
theorem T8_readsPlace (M : MM) (a0 : Nat) (a1 : Nat) (a2 : Nat) : ∀ q, f8_readsPlace M a0 a1 a2 = some q → Run i8_readsPlace [vr a0, vr a1, vr a2] M (Li q) := by
  obtain ⟨d0, d1, d2, d5, d6, d9, d10, d11, d14, d15, d18, d21, d24, d27, d28, d29, d30, d33, d34, d35, d36, -⟩ := dd8_readsPlace
  refine Run_of_X (by decide) (Nat.le_of_ble_eq_true rfl) ?_
  show X Li i8_readsPlace 0 [(0, vr a0), (1, vr a1), (2, vr a2)] [] M _
  unfold f8_readsPlace
  refine X_aloadn 0 d0 rfl ?_
  refine X_aloadn 1 d1 rfl ?_
  refine X_cVv (as := [vr a1]) d2 cv_x8_26 ⟨by decide, by decide⟩ rfl (Nat.le_of_ble_eq_true rfl) (T8_begin M a0 a1) (fun M2 _ => ?_)
  refine X_aloadn 2 d5 rfl ?_
  refine X_cVv (as := []) d6 cv_x8_68 ⟨by decide, by decide⟩ rfl (Nat.le_of_ble_eq_true rfl) (T6_forget M2 a2) (fun M6 _ => ?_)
  refine X_aloadn 0 d9 rfl ?_
  refine X_aloadn 0 d10 rfl ?_
  refine X_getR d11 fg_x8_22 ?_
  refine X_aloadn 0 d14 rfl ?_
  refine X_getR d15 fg_x8_18 ?_
  refine X_getJ d18 fg_x8_73 ?_
  refine X_cVi (as := [vl (mJ M6 (mR M6 a0 0) 5)]) d21 cv_x8_77 ⟨by decide, by decide⟩ rfl (Nat.le_of_ble_eq_true rfl) (T7_stateNamed M6 (mR M6 a0 1) (mJ M6 (mR M6 a0 0) 5)) (fun r21 M21 _ => ?_)
  refine X_cVi (as := [vi r21]) d24 cv_x8_81 ⟨by decide, by decide⟩ rfl (Nat.le_of_ble_eq_true rfl) (T8_takeNamed M21 a0 r21) (fun r24 M24 _ => ?_)
  refine X_istoren (lv' := [(3, vi r24), (0, vr a0), (1, vr a1), (2, vr a2)]) d27 (by decide) rfl ?_
  refine X_iloadn 0 d28 rfl ?_
  refine X_iconst k_i_m1 d29 ?_
  refine X_icmp_ne (t := 35) d30 rfl (fun h30 => ?_) (fun h30 => ?_)
  · refine X_iconst k_i_0 d33 ?_
    exact X_zreturnc d34 rfl (by decide) rfl
  · refine X_iconst k_i_0 d35 ?_
    refine X_istore (lv' := [(4, vi (0 : Int32)), (3, vi r24), (0, vr a0), (1, vr a1), (2, vr a2)]) d36 (by decide) rfl ?_
    refine X_sub [2, 4, 1, 0] rfl ?_
    exact T8_readsPlace_b38 M24 a0 a2 r24 (0 : Int32)

theorem dd8_readsState : AllD (ib i8_readsState) [(0, .aload_n 0, 1), (1, .getfield 22, 3), (4, .getfield 108, 3), (7, .iconst 5, 1), (8, .if_icmp .lt 9, 3), (11, .aload_n 0, 1), (12, .iconst 5, 1), (13, .invokevirtual 104, 3), (16, .ireturn, 1), (17, .aload_n 0, 1), (18, .getfield 18, 3), (21, .invokevirtual 111, 3), (24, .aload_n 0, 1), (25, .invokevirtual 114, 3), (28, .ifCond .ne 5, 3), (31, .iconst 0, 1), (32, .ireturn, 1), (33, .aload_n 0, 1), (34, .getfield 22, 3), (37, .aload_n 0, 1), (38, .getfield 18, 3), (41, .getfield 73, 3), (44, .invokevirtual 117, 3), (47, .aload_n 0, 1), (48, .getfield 18, 3), (51, .invokevirtual 111, 3), (54, .aload_n 0, 1), (55, .invokevirtual 121, 3), (58, .ireturn, 1)] := allD_of (by decide +kernel)
def f8_readsState (M : MM) (a0 : Nat) : Option (Int32 × MM) :=
  aO M a0 8 <|
  aO M (mR M a0 1) 7 <|
  if (mI M (mR M a0 1) 4) < (5 : Int32) then
    aO M a0 8 <|
    aO M (mR M a0 0) 9 <|
    cV (f9_takeNext M (mR M a0 0)) fun M21 =>
    aO M21 a0 8 <|
    cI (f8_isNewName M21 a0) fun r25 M25 =>
    if r25 = 0 then
      some ((0 : Int32), M25)
    else
      aO M25 a0 8 <|
      aO M25 a0 8 <|
      aO M25 (mR M25 a0 0) 9 <|
      aO M25 (mR M25 a0 1) 7 <|
      cV (f7_addState M25 (mR M25 a0 1) (mJ M25 (mR M25 a0 0) 5)) fun M44 =>
      aO M44 a0 8 <|
      aO M44 (mR M44 a0 0) 9 <|
      cV (f9_takeNext M44 (mR M44 a0 0)) fun M51 =>
      aO M51 a0 8 <|
      cI (f8_readsSemicolon M51 a0) fun r55 M55 =>
      gd (r55 = 0 ∨ r55 = 1) <|
      some (r55, M55)
  else
    aO M a0 8 <|
    cI (f8_fail M a0 (5 : Int32)) fun r13 M13 =>
    gd (r13 = 0 ∨ r13 = 1) <|
    some (r13, M13)
set_option maxRecDepth 4000 in
theorem T8_readsState (M : MM) (a0 : Nat) : ∀ q, f8_readsState M a0 = some q → Run i8_readsState [vr a0] M (Li q) := by
  obtain ⟨d0, d1, d4, d7, d8, d11, d12, d13, d16, d17, d18, d21, d24, d25, d28, d31, d32, d33, d34, d37, d38, d41, d44, d47, d48, d51, d54, d55, d58, -⟩ := dd8_readsState
  refine Run_of_X (by decide) (Nat.le_of_ble_eq_true rfl) ?_
  show X Li i8_readsState 0 [(0, vr a0)] [] M _
  unfold f8_readsState
  refine X_aloadn 0 d0 rfl ?_
  refine X_getR d1 fg_x8_22 ?_
  refine X_getI d4 fg_x8_108 ?_
  refine X_iconst k_i_5 d7 ?_
  refine X_icmp_lt (t := 17) d8 rfl (fun h8 => ?_) (fun h8 => ?_)
  · refine X_aloadn 0 d17 rfl ?_
    refine X_getR d18 fg_x8_18 ?_
    refine X_cVv (as := []) d21 cv_x8_111 ⟨by decide, by decide⟩ rfl (Nat.le_of_ble_eq_true rfl) (T9_takeNext M (mR M a0 0)) (fun M21 _ => ?_)
    refine X_aloadn 0 d24 rfl ?_
    refine X_cVi (as := []) d25 cv_x8_114 ⟨by decide, by decide⟩ rfl (Nat.le_of_ble_eq_true rfl) (T8_isNewName M21 a0) (fun r25 M25 _ => ?_)
    refine X_if_ne (t := 33) d28 rfl (fun h28 => ?_) (fun h28 => ?_)
    · refine X_iconst k_i_0 d31 ?_
      exact X_zreturnc d32 rfl (by decide) rfl
    · refine X_aloadn 0 d33 rfl ?_
      refine X_getR d34 fg_x8_22 ?_
      refine X_aloadn 0 d37 rfl ?_
      refine X_getR d38 fg_x8_18 ?_
      refine X_getJ d41 fg_x8_73 ?_
      refine X_cVv (as := [vl (mJ M25 (mR M25 a0 0) 5)]) d44 cv_x8_117 ⟨by decide, by decide⟩ rfl (Nat.le_of_ble_eq_true rfl) (T7_addState M25 (mR M25 a0 1) (mJ M25 (mR M25 a0 0) 5)) (fun M44 _ => ?_)
      refine X_aloadn 0 d47 rfl ?_
      refine X_getR d48 fg_x8_18 ?_
      refine X_cVv (as := []) d51 cv_x8_111 ⟨by decide, by decide⟩ rfl (Nat.le_of_ble_eq_true rfl) (T9_takeNext M44 (mR M44 a0 0)) (fun M51 _ => ?_)
      refine X_aloadn 0 d54 rfl ?_
      refine X_cVi (as := []) d55 cv_x8_121 ⟨by decide, by decide⟩ rfl (Nat.le_of_ble_eq_true rfl) (T8_readsSemicolon M51 a0) (fun r55 M55 _ => ?_)
      exact X_zreturn d58 rfl rfl
  · refine X_aloadn 0 d11 rfl ?_
    refine X_iconst k_i_5 d12 ?_
    refine X_cVi (as := [vi (5 : Int32)]) d13 cv_x8_104 ⟨by decide, by decide⟩ rfl (Nat.le_of_ble_eq_true rfl) (T8_fail M a0 (5 : Int32)) (fun r13 M13 _ => ?_)
    exact X_zreturn d16 rfl rfl

theorem dd8_readsSign : AllD (ib i8_readsSign) [(0, .aload_n 0, 1), (1, .getfield 22, 3), (4, .getfield 124, 3), (7, .bipush 6, 2), (9, .if_icmp .lt 9, 3), (12, .aload_n 0, 1), (13, .iconst 5, 1), (14, .invokevirtual 104, 3), (17, .ireturn, 1), (18, .aload_n 0, 1), (19, .getfield 18, 3), (22, .invokevirtual 111, 3), (25, .aload_n 0, 1), (26, .invokevirtual 114, 3), (29, .ifCond .ne 5, 3), (32, .iconst 0, 1), (33, .ireturn, 1), (34, .aload_n 0, 1), (35, .getfield 22, 3), (38, .aload_n 0, 1), (39, .getfield 18, 3), (42, .getfield 73, 3), (45, .invokevirtual 127, 3), (48, .aload_n 0, 1), (49, .getfield 18, 3), (52, .invokevirtual 111, 3), (55, .aload_n 0, 1), (56, .invokevirtual 121, 3), (59, .ireturn, 1)] := allD_of (by decide +kernel)
def f8_readsSign (M : MM) (a0 : Nat) : Option (Int32 × MM) :=
  aO M a0 8 <|
  aO M (mR M a0 1) 7 <|
  if (mI M (mR M a0 1) 5) < (6 : Int32) then
    aO M a0 8 <|
    aO M (mR M a0 0) 9 <|
    cV (f9_takeNext M (mR M a0 0)) fun M22 =>
    aO M22 a0 8 <|
    cI (f8_isNewName M22 a0) fun r26 M26 =>
    if r26 = 0 then
      some ((0 : Int32), M26)
    else
      aO M26 a0 8 <|
      aO M26 a0 8 <|
      aO M26 (mR M26 a0 0) 9 <|
      aO M26 (mR M26 a0 1) 7 <|
      cV (f7_addSign M26 (mR M26 a0 1) (mJ M26 (mR M26 a0 0) 5)) fun M45 =>
      aO M45 a0 8 <|
      aO M45 (mR M45 a0 0) 9 <|
      cV (f9_takeNext M45 (mR M45 a0 0)) fun M52 =>
      aO M52 a0 8 <|
      cI (f8_readsSemicolon M52 a0) fun r56 M56 =>
      gd (r56 = 0 ∨ r56 = 1) <|
      some (r56, M56)
  else
    aO M a0 8 <|
    cI (f8_fail M a0 (5 : Int32)) fun r14 M14 =>
    gd (r14 = 0 ∨ r14 = 1) <|
    some (r14, M14)
set_option maxRecDepth 4000 in
theorem T8_readsSign (M : MM) (a0 : Nat) : ∀ q, f8_readsSign M a0 = some q → Run i8_readsSign [vr a0] M (Li q) := by
  obtain ⟨d0, d1, d4, d7, d9, d12, d13, d14, d17, d18, d19, d22, d25, d26, d29, d32, d33, d34, d35, d38, d39, d42, d45, d48, d49, d52, d55, d56, d59, -⟩ := dd8_readsSign
  refine Run_of_X (by decide) (Nat.le_of_ble_eq_true rfl) ?_
  show X Li i8_readsSign 0 [(0, vr a0)] [] M _
  unfold f8_readsSign
  refine X_aloadn 0 d0 rfl ?_
  refine X_getR d1 fg_x8_22 ?_
  refine X_getI d4 fg_x8_124 ?_
  refine X_bipush k_b_6 d7 ?_
  refine X_icmp_lt (t := 18) d9 rfl (fun h9 => ?_) (fun h9 => ?_)
  · refine X_aloadn 0 d18 rfl ?_
    refine X_getR d19 fg_x8_18 ?_
    refine X_cVv (as := []) d22 cv_x8_111 ⟨by decide, by decide⟩ rfl (Nat.le_of_ble_eq_true rfl) (T9_takeNext M (mR M a0 0)) (fun M22 _ => ?_)
    refine X_aloadn 0 d25 rfl ?_
    refine X_cVi (as := []) d26 cv_x8_114 ⟨by decide, by decide⟩ rfl (Nat.le_of_ble_eq_true rfl) (T8_isNewName M22 a0) (fun r26 M26 _ => ?_)
    refine X_if_ne (t := 34) d29 rfl (fun h29 => ?_) (fun h29 => ?_)
    · refine X_iconst k_i_0 d32 ?_
      exact X_zreturnc d33 rfl (by decide) rfl
    · refine X_aloadn 0 d34 rfl ?_
      refine X_getR d35 fg_x8_22 ?_
      refine X_aloadn 0 d38 rfl ?_
      refine X_getR d39 fg_x8_18 ?_
      refine X_getJ d42 fg_x8_73 ?_
      refine X_cVv (as := [vl (mJ M26 (mR M26 a0 0) 5)]) d45 cv_x8_127 ⟨by decide, by decide⟩ rfl (Nat.le_of_ble_eq_true rfl) (T7_addSign M26 (mR M26 a0 1) (mJ M26 (mR M26 a0 0) 5)) (fun M45 _ => ?_)
      refine X_aloadn 0 d48 rfl ?_
      refine X_getR d49 fg_x8_18 ?_
      refine X_cVv (as := []) d52 cv_x8_111 ⟨by decide, by decide⟩ rfl (Nat.le_of_ble_eq_true rfl) (T9_takeNext M45 (mR M45 a0 0)) (fun M52 _ => ?_)
      refine X_aloadn 0 d55 rfl ?_
      refine X_cVi (as := []) d56 cv_x8_121 ⟨by decide, by decide⟩ rfl (Nat.le_of_ble_eq_true rfl) (T8_readsSemicolon M52 a0) (fun r56 M56 _ => ?_)
      exact X_zreturn d59 rfl rfl
  · refine X_aloadn 0 d12 rfl ?_
    refine X_iconst k_i_5 d13 ?_
    refine X_cVi (as := [vi (5 : Int32)]) d14 cv_x8_104 ⟨by decide, by decide⟩ rfl (Nat.le_of_ble_eq_true rfl) (T8_fail M a0 (5 : Int32)) (fun r14 M14 _ => ?_)
    exact X_zreturn d17 rfl rfl

theorem dd8_readsRuleState : AllD (ib i8_readsRuleState) [(0, .aload_n 0, 1), (1, .aload_n 0, 1), (2, .getfield 22, 3), (5, .aload_n 0, 1), (6, .getfield 18, 3), (9, .getfield 73, 3), (12, .invokevirtual 77, 3), (15, .invokevirtual 81, 3), (18, .istore_n 3, 1), (19, .aload_n 0, 1), (20, .getfield 22, 3), (23, .iload_n 1, 1), (24, .iload_n 2, 1), (25, .iload_n 3, 1), (26, .invokevirtual 152, 3), (29, .iload_n 3, 1), (30, .iconst (-1), 1), (31, .if_icmp .eq 7, 3), (34, .iconst 1, 1), (35, .goto 4, 3), (38, .iconst 0, 1), (39, .ireturn, 1)] := allD_of (by decide +kernel)
def f8_readsRuleState (M : MM) (a0 : Nat) (a1 : Int32) (a2 : Int32) : Option (Int32 × MM) :=
  aO M a0 8 <|
  aO M a0 8 <|
  aO M (mR M a0 0) 9 <|
  aO M (mR M a0 1) 7 <|
  cI (f7_stateNamed M (mR M a0 1) (mJ M (mR M a0 0) 5)) fun r12 M12 =>
  aO M12 a0 8 <|
  cI (f8_takeNamed M12 a0 r12) fun r15 M15 =>
  aO M15 a0 8 <|
  aO M15 (mR M15 a0 1) 7 <|
  cV (f7_setRule M15 (mR M15 a0 1) a1 a2 r15) fun M26 =>
  if r15 = (-1 : Int32) then
    some ((0 : Int32), M26)
  else
    some ((1 : Int32), M26)
set_option maxRecDepth 4000 in
theorem T8_readsRuleState (M : MM) (a0 : Nat) (a1 : Int32) (a2 : Int32) : ∀ q, f8_readsRuleState M a0 a1 a2 = some q → Run i8_readsRuleState [vr a0, vi a1, vi a2] M (Li q) := by
  obtain ⟨d0, d1, d2, d5, d6, d9, d12, d15, d18, d19, d20, d23, d24, d25, d26, d29, d30, d31, d34, d35, d38, d39, -⟩ := dd8_readsRuleState
  refine Run_of_X (by decide) (Nat.le_of_ble_eq_true rfl) ?_
  show X Li i8_readsRuleState 0 [(0, vr a0), (1, vi a1), (2, vi a2)] [] M _
  unfold f8_readsRuleState
  refine X_aloadn 0 d0 rfl ?_
  refine X_aloadn 0 d1 rfl ?_
  refine X_getR d2 fg_x8_22 ?_
  refine X_aloadn 0 d5 rfl ?_
  refine X_getR d6 fg_x8_18 ?_
  refine X_getJ d9 fg_x8_73 ?_
  refine X_cVi (as := [vl (mJ M (mR M a0 0) 5)]) d12 cv_x8_77 ⟨by decide, by decide⟩ rfl (Nat.le_of_ble_eq_true rfl) (T7_stateNamed M (mR M a0 1) (mJ M (mR M a0 0) 5)) (fun r12 M12 _ => ?_)
  refine X_cVi (as := [vi r12]) d15 cv_x8_81 ⟨by decide, by decide⟩ rfl (Nat.le_of_ble_eq_true rfl) (T8_takeNamed M12 a0 r12) (fun r15 M15 _ => ?_)
  refine X_istoren (lv' := [(3, vi r15), (0, vr a0), (1, vi a1), (2, vi a2)]) d18 (by decide) rfl ?_
  refine X_aloadn 1 d19 rfl ?_
  refine X_getR d20 fg_x8_22 ?_
  refine X_iloadn 2 d23 rfl ?_
  refine X_iloadn 3 d24 rfl ?_
  refine X_iloadn 0 d25 rfl ?_
  refine X_cVv (as := [vi a1, vi a2, vi r15]) d26 cv_x8_152 ⟨by decide, by decide⟩ rfl (Nat.le_of_ble_eq_true rfl) (T7_setRule M15 (mR M15 a0 1) a1 a2 r15) (fun M26 _ => ?_)
  refine X_iloadn 0 d29 rfl ?_
  refine X_iconst k_i_m1 d30 ?_
  refine X_icmp_eq (t := 38) d31 rfl (fun h31 => ?_) (fun h31 => ?_)
  · refine X_iconst k_i_0 d38 ?_
    exact X_zreturnc d39 rfl (by decide) rfl
  · refine X_iconst k_i_1 d34 ?_
    refine X_goto (t := 39) d35 rfl ?_
    exact X_zreturnc d39 rfl (by decide) rfl

theorem dd8_readsRuleSign : AllD (ib i8_readsRuleSign) [(0, .aload_n 0, 1), (1, .aload_n 0, 1), (2, .getfield 22, 3), (5, .aload_n 0, 1), (6, .getfield 18, 3), (9, .getfield 73, 3), (12, .invokevirtual 85, 3), (15, .invokevirtual 81, 3), (18, .istore_n 3, 1), (19, .aload_n 0, 1), (20, .getfield 22, 3), (23, .iload_n 1, 1), (24, .iload_n 2, 1), (25, .iload_n 3, 1), (26, .invokevirtual 152, 3), (29, .iload_n 3, 1), (30, .iconst (-1), 1), (31, .if_icmp .eq 7, 3), (34, .iconst 1, 1), (35, .goto 4, 3), (38, .iconst 0, 1), (39, .ireturn, 1)] := allD_of (by decide +kernel)
def f8_readsRuleSign (M : MM) (a0 : Nat) (a1 : Int32) (a2 : Int32) : Option (Int32 × MM) :=
  aO M a0 8 <|
  aO M a0 8 <|
  aO M (mR M a0 0) 9 <|
  aO M (mR M a0 1) 7 <|
  cI (f7_signNamed M (mR M a0 1) (mJ M (mR M a0 0) 5)) fun r12 M12 =>
  aO M12 a0 8 <|
  cI (f8_takeNamed M12 a0 r12) fun r15 M15 =>
  aO M15 a0 8 <|
  aO M15 (mR M15 a0 1) 7 <|
  cV (f7_setRule M15 (mR M15 a0 1) a1 a2 r15) fun M26 =>
  if r15 = (-1 : Int32) then
    some ((0 : Int32), M26)
  else
    some ((1 : Int32), M26)
set_option maxRecDepth 4000 in
theorem T8_readsRuleSign (M : MM) (a0 : Nat) (a1 : Int32) (a2 : Int32) : ∀ q, f8_readsRuleSign M a0 a1 a2 = some q → Run i8_readsRuleSign [vr a0, vi a1, vi a2] M (Li q) := by
  obtain ⟨d0, d1, d2, d5, d6, d9, d12, d15, d18, d19, d20, d23, d24, d25, d26, d29, d30, d31, d34, d35, d38, d39, -⟩ := dd8_readsRuleSign
  refine Run_of_X (by decide) (Nat.le_of_ble_eq_true rfl) ?_
  show X Li i8_readsRuleSign 0 [(0, vr a0), (1, vi a1), (2, vi a2)] [] M _
  unfold f8_readsRuleSign
  refine X_aloadn 0 d0 rfl ?_
  refine X_aloadn 0 d1 rfl ?_
  refine X_getR d2 fg_x8_22 ?_
  refine X_aloadn 0 d5 rfl ?_
  refine X_getR d6 fg_x8_18 ?_
  refine X_getJ d9 fg_x8_73 ?_
  refine X_cVi (as := [vl (mJ M (mR M a0 0) 5)]) d12 cv_x8_85 ⟨by decide, by decide⟩ rfl (Nat.le_of_ble_eq_true rfl) (T7_signNamed M (mR M a0 1) (mJ M (mR M a0 0) 5)) (fun r12 M12 _ => ?_)
  refine X_cVi (as := [vi r12]) d15 cv_x8_81 ⟨by decide, by decide⟩ rfl (Nat.le_of_ble_eq_true rfl) (T8_takeNamed M12 a0 r12) (fun r15 M15 _ => ?_)
  refine X_istoren (lv' := [(3, vi r15), (0, vr a0), (1, vi a1), (2, vi a2)]) d18 (by decide) rfl ?_
  refine X_aloadn 1 d19 rfl ?_
  refine X_getR d20 fg_x8_22 ?_
  refine X_iloadn 2 d23 rfl ?_
  refine X_iloadn 3 d24 rfl ?_
  refine X_iloadn 0 d25 rfl ?_
  refine X_cVv (as := [vi a1, vi a2, vi r15]) d26 cv_x8_152 ⟨by decide, by decide⟩ rfl (Nat.le_of_ble_eq_true rfl) (T7_setRule M15 (mR M15 a0 1) a1 a2 r15) (fun M26 _ => ?_)
  refine X_iloadn 0 d29 rfl ?_
  refine X_iconst k_i_m1 d30 ?_
  refine X_icmp_eq (t := 38) d31 rfl (fun h31 => ?_) (fun h31 => ?_)
  · refine X_iconst k_i_0 d38 ?_
    exact X_zreturnc d39 rfl (by decide) rfl
  · refine X_iconst k_i_1 d34 ?_
    refine X_goto (t := 39) d35 rfl ?_
    exact X_zreturnc d39 rfl (by decide) rfl

theorem dd8_readsTo : AllD (ib i8_readsTo) [(0, .aload_n 0, 1), (1, .getfield 18, 3), (4, .ldc2_w 156, 3), (7, .invokevirtual 42, 3), (10, .ifCond .ne 8, 3), (13, .aload_n 0, 1), (14, .invokevirtual 65, 3), (17, .ireturn, 1), (18, .aload_n 0, 1), (19, .getfield 18, 3), (22, .invokevirtual 111, 3), (25, .iconst 1, 1), (26, .ireturn, 1)] := allD_of (by decide +kernel)
def f8_readsTo (M : MM) (a0 : Nat) : Option (Int32 × MM) :=
  aO M a0 8 <|
  aO M (mR M a0 0) 9 <|
  cI (f9_isWord M (mR M a0 0) (29807 : Int64)) fun r7 M7 =>
  if r7 = 0 then
    aO M7 a0 8 <|
    cI (f8_refuse M7 a0) fun r14 M14 =>
    gd (r14 = 0 ∨ r14 = 1) <|
    some (r14, M14)
  else
    aO M7 a0 8 <|
    aO M7 (mR M7 a0 0) 9 <|
    cV (f9_takeNext M7 (mR M7 a0 0)) fun M22 =>
    some ((1 : Int32), M22)
set_option maxRecDepth 4000 in
theorem T8_readsTo (M : MM) (a0 : Nat) : ∀ q, f8_readsTo M a0 = some q → Run i8_readsTo [vr a0] M (Li q) := by
  obtain ⟨d0, d1, d4, d7, d10, d13, d14, d17, d18, d19, d22, d25, d26, -⟩ := dd8_readsTo
  refine Run_of_X (by decide) (Nat.le_of_ble_eq_true rfl) ?_
  show X Li i8_readsTo 0 [(0, vr a0)] [] M _
  unfold f8_readsTo
  refine X_aloadn 0 d0 rfl ?_
  refine X_getR d1 fg_x8_18 ?_
  refine X_ldc2 kc_x8_156 d4 ?_
  refine X_cVi (as := [vl (29807 : Int64)]) d7 cv_x8_42 ⟨by decide, by decide⟩ rfl (Nat.le_of_ble_eq_true rfl) (T9_isWord M (mR M a0 0) (29807 : Int64)) (fun r7 M7 _ => ?_)
  refine X_if_ne (t := 18) d10 rfl (fun h10 => ?_) (fun h10 => ?_)
  · refine X_aloadn 0 d13 rfl ?_
    refine X_cVi (as := []) d14 cv_x8_65 ⟨by decide, by decide⟩ rfl (Nat.le_of_ble_eq_true rfl) (T8_refuse M7 a0) (fun r14 M14 _ => ?_)
    exact X_zreturn d17 rfl rfl
  · refine X_aloadn 0 d18 rfl ?_
    refine X_getR d19 fg_x8_18 ?_
    refine X_cVv (as := []) d22 cv_x8_111 ⟨by decide, by decide⟩ rfl (Nat.le_of_ble_eq_true rfl) (T9_takeNext M7 (mR M7 a0 0)) (fun M22 _ => ?_)
    refine X_iconst k_i_1 d25 ?_
    exact X_zreturnc d26 rfl (by decide) rfl

theorem dd8_readsRuleSigns_b81 : AllD (ib i8_readsRuleSigns) [(81, .aload_n 0, 1), (82, .getfield 22, 3), (85, .iload_n 1, 1), (86, .iconst 3, 1), (87, .iload_n 2, 1), (88, .invokevirtual 152, 3), (91, .iconst 1, 1), (92, .ireturn, 1)] := allD_of (by decide +kernel)
def f8_readsRuleSigns_b81 (M : MM) (a0 : Nat) (a1 : Int32) (a2 : Int32) : Option (Int32 × MM) :=
  aO M a0 8 <|
  aO M (mR M a0 1) 7 <|
  cV (f7_setRule M (mR M a0 1) a1 (3 : Int32) a2) fun M88 =>
  some ((1 : Int32), M88)
set_option maxRecDepth 4000 in
theorem T8_readsRuleSigns_b81 : ∀ (M : MM) (a0 : Nat) (a1 : Int32) (a2 : Int32), X Li i8_readsRuleSigns 81 [(0, vr a0), (1, vi a1), (2, vi a2)] [] M (f8_readsRuleSigns_b81 M a0 a1 a2) := by
  obtain ⟨d81, d82, d85, d86, d87, d88, d91, d92, -⟩ := dd8_readsRuleSigns_b81
  intro M a0 a1 a2
  unfold f8_readsRuleSigns_b81
  refine X_aloadn 0 d81 rfl ?_
  refine X_getR d82 fg_x8_22 ?_
  refine X_iloadn 1 d85 rfl ?_
  refine X_iconst k_i_3 d86 ?_
  refine X_iloadn 2 d87 rfl ?_
  refine X_cVv (as := [vi a1, vi (3 : Int32), vi a2]) d88 cv_x8_152 ⟨by decide, by decide⟩ rfl (Nat.le_of_ble_eq_true rfl) (T7_setRule M (mR M a0 1) a1 (3 : Int32) a2) (fun M88 _ => ?_)
  refine X_iconst k_i_1 d91 ?_
  exact X_zreturnc d92 rfl (by decide) rfl

theorem dd8_readsRuleSigns_b22 : AllD (ib i8_readsRuleSigns) [(22, .iload_n 2, 1), (23, .iconst 2, 1), (24, .if_icmp .ge 57, 3), (27, .aload_n 0, 1), (28, .getfield 18, 3), (31, .invokevirtual 130, 3), (34, .ifCond .eq 47, 3), (37, .aload_n 0, 1), (38, .aload_n 0, 1), (39, .getfield 22, 3), (42, .aload_n 0, 1), (43, .getfield 18, 3), (46, .getfield 73, 3), (49, .invokevirtual 85, 3), (52, .invokevirtual 81, 3), (55, .istore_n 3, 1), (56, .iload_n 3, 1), (57, .iconst (-1), 1), (58, .if_icmp .ne 5, 3), (61, .iconst 0, 1), (62, .ireturn, 1), (63, .aload_n 0, 1), (64, .getfield 22, 3), (67, .iload_n 1, 1), (68, .iconst 4, 1), (69, .iload_n 2, 1), (70, .iadd, 1), (71, .iload_n 3, 1), (72, .invokevirtual 152, 3), (75, .iinc 2 1, 3), (78, .goto (-56), 3)] := allD_of (by decide +kernel)
def f8_readsRuleSigns_b22_body (rc : MM → Nat → Int32 → Int32 → Option (Int32 × MM)) (M : MM) (a0 : Nat) (a1 : Int32) (a2 : Int32) : Option (Int32 × MM) :=
  if (2 : Int32) ≤ a2 then
    f8_readsRuleSigns_b81 M a0 a1 a2
  else
    aO M a0 8 <|
    aO M (mR M a0 0) 9 <|
    cI (f9_isName M (mR M a0 0)) fun r31 M31 =>
    if r31 = 0 then
      f8_readsRuleSigns_b81 M31 a0 a1 a2
    else
      aO M31 a0 8 <|
      aO M31 a0 8 <|
      aO M31 (mR M31 a0 0) 9 <|
      aO M31 (mR M31 a0 1) 7 <|
      cI (f7_signNamed M31 (mR M31 a0 1) (mJ M31 (mR M31 a0 0) 5)) fun r49 M49 =>
      aO M49 a0 8 <|
      cI (f8_takeNamed M49 a0 r49) fun r52 M52 =>
      if r52 = (-1 : Int32) then
        some ((0 : Int32), M52)
      else
        aO M52 a0 8 <|
        aO M52 (mR M52 a0 1) 7 <|
        cV (f7_setRule M52 (mR M52 a0 1) a1 ((4 : Int32) + a2) r52) fun M72 =>
        rc M72 a0 a1 (a2 + (1 : Int32))
def f8_readsRuleSigns_b22 : MM → Nat → Int32 → Int32 → Option (Int32 × MM) := LP4 (f8_readsRuleSigns_b22_body) FU
set_option maxRecDepth 4000 in
theorem T8_readsRuleSigns_b22 : ∀ (M : MM) (a0 : Nat) (a1 : Int32) (a2 : Int32), X Li i8_readsRuleSigns 22 [(0, vr a0), (1, vi a1), (2, vi a2)] [] M (f8_readsRuleSigns_b22 M a0 a1 a2) := by
  obtain ⟨d22, d23, d24, d27, d28, d31, d34, d37, d38, d39, d42, d43, d46, d49, d52, d55, d56, d57, d58, d61, d62, d63, d64, d67, d68, d69, d70, d71, d72, d75, d78, -⟩ := dd8_readsRuleSigns_b22
  refine LP4_i (P := fun M a0 a1 a2 o => X Li i8_readsRuleSigns 22 [(0, vr a0), (1, vi a1), (2, vi a2)] [] M o) (fun _ _ _ _ => X_none) (fun rc ih M a0 a1 a2 => ?_) FU
  unfold f8_readsRuleSigns_b22_body
  refine X_iloadn 2 d22 rfl ?_
  refine X_iconst k_i_2 d23 ?_
  refine X_icmp_ge (t := 81) d24 rfl (fun h24 => ?_) (fun h24 => ?_)
  · exact T8_readsRuleSigns_b81 M a0 a1 a2
  · refine X_aloadn 0 d27 rfl ?_
    refine X_getR d28 fg_x8_18 ?_
    refine X_cVi (as := []) d31 cv_x8_130 ⟨by decide, by decide⟩ rfl (Nat.le_of_ble_eq_true rfl) (T9_isName M (mR M a0 0)) (fun r31 M31 _ => ?_)
    refine X_if_eq (t := 81) d34 rfl (fun h34 => ?_) (fun h34 => ?_)
    · exact T8_readsRuleSigns_b81 M31 a0 a1 a2
    · refine X_aloadn 0 d37 rfl ?_
      refine X_aloadn 0 d38 rfl ?_
      refine X_getR d39 fg_x8_22 ?_
      refine X_aloadn 0 d42 rfl ?_
      refine X_getR d43 fg_x8_18 ?_
      refine X_getJ d46 fg_x8_73 ?_
      refine X_cVi (as := [vl (mJ M31 (mR M31 a0 0) 5)]) d49 cv_x8_85 ⟨by decide, by decide⟩ rfl (Nat.le_of_ble_eq_true rfl) (T7_signNamed M31 (mR M31 a0 1) (mJ M31 (mR M31 a0 0) 5)) (fun r49 M49 _ => ?_)
      refine X_cVi (as := [vi r49]) d52 cv_x8_81 ⟨by decide, by decide⟩ rfl (Nat.le_of_ble_eq_true rfl) (T8_takeNamed M49 a0 r49) (fun r52 M52 _ => ?_)
      refine X_istoren (lv' := [(3, vi r52), (0, vr a0), (1, vi a1), (2, vi a2)]) d55 (by decide) rfl ?_
      refine X_iloadn 0 d56 rfl ?_
      refine X_iconst k_i_m1 d57 ?_
      refine X_icmp_ne (t := 63) d58 rfl (fun h58 => ?_) (fun h58 => ?_)
      · refine X_iconst k_i_0 d61 ?_
        exact X_zreturnc d62 rfl (by decide) rfl
      · refine X_aloadn 1 d63 rfl ?_
        refine X_getR d64 fg_x8_22 ?_
        refine X_iloadn 2 d67 rfl ?_
        refine X_iconst k_i_4 d68 ?_
        refine X_iloadn 3 d69 rfl ?_
        refine X_iadd d70 ?_
        refine X_iloadn 0 d71 rfl ?_
        refine X_cVv (as := [vi a1, vi ((4 : Int32) + a2), vi r52]) d72 cv_x8_152 ⟨by decide, by decide⟩ rfl (Nat.le_of_ble_eq_true rfl) (T7_setRule M52 (mR M52 a0 1) a1 ((4 : Int32) + a2) r52) (fun M72 _ => ?_)
        refine X_inc (lv' := [(2, vi (a2 + (1 : Int32))), (3, vi r52), (0, vr a0), (1, vi a1)]) 3 d75 k_i_1 rfl (by decide) rfl ?_
        refine X_goto (t := 22) d78 rfl ?_
        refine X_sub [2, 3, 0] rfl ?_
        exact ih M72 a0 a1 (a2 + (1 : Int32))

theorem dd8_readsRuleSigns : AllD (ib i8_readsRuleSigns) [(0, .aload_n 0, 1), (1, .getfield 22, 3), (4, .iload_n 1, 1), (5, .iconst 4, 1), (6, .iconst (-1), 1), (7, .invokevirtual 152, 3), (10, .aload_n 0, 1), (11, .getfield 22, 3), (14, .iload_n 1, 1), (15, .iconst 5, 1), (16, .iconst (-1), 1), (17, .invokevirtual 152, 3), (20, .iconst 0, 1), (21, .istore_n 2, 1)] := allD_of (by decide +kernel)
def f8_readsRuleSigns (M : MM) (a0 : Nat) (a1 : Int32) : Option (Int32 × MM) :=
  aO M a0 8 <|
  aO M (mR M a0 1) 7 <|
  cV (f7_setRule M (mR M a0 1) a1 (4 : Int32) (-1 : Int32)) fun M7 =>
  aO M7 a0 8 <|
  aO M7 (mR M7 a0 1) 7 <|
  cV (f7_setRule M7 (mR M7 a0 1) a1 (5 : Int32) (-1 : Int32)) fun M17 =>
  f8_readsRuleSigns_b22 M17 a0 a1 (0 : Int32)
set_option maxRecDepth 4000 in
theorem T8_readsRuleSigns (M : MM) (a0 : Nat) (a1 : Int32) : ∀ q, f8_readsRuleSigns M a0 a1 = some q → Run i8_readsRuleSigns [vr a0, vi a1] M (Li q) := by
  obtain ⟨d0, d1, d4, d5, d6, d7, d10, d11, d14, d15, d16, d17, d20, d21, -⟩ := dd8_readsRuleSigns
  refine Run_of_X (by decide) (Nat.le_of_ble_eq_true rfl) ?_
  show X Li i8_readsRuleSigns 0 [(0, vr a0), (1, vi a1)] [] M _
  unfold f8_readsRuleSigns
  refine X_aloadn 0 d0 rfl ?_
  refine X_getR d1 fg_x8_22 ?_
  refine X_iloadn 1 d4 rfl ?_
  refine X_iconst k_i_4 d5 ?_
  refine X_iconst k_i_m1 d6 ?_
  refine X_cVv (as := [vi a1, vi (4 : Int32), vi (-1 : Int32)]) d7 cv_x8_152 ⟨by decide, by decide⟩ rfl (Nat.le_of_ble_eq_true rfl) (T7_setRule M (mR M a0 1) a1 (4 : Int32) (-1 : Int32)) (fun M7 _ => ?_)
  refine X_aloadn 0 d10 rfl ?_
  refine X_getR d11 fg_x8_22 ?_
  refine X_iloadn 1 d14 rfl ?_
  refine X_iconst k_i_5 d15 ?_
  refine X_iconst k_i_m1 d16 ?_
  refine X_cVv (as := [vi a1, vi (5 : Int32), vi (-1 : Int32)]) d17 cv_x8_152 ⟨by decide, by decide⟩ rfl (Nat.le_of_ble_eq_true rfl) (T7_setRule M7 (mR M7 a0 1) a1 (5 : Int32) (-1 : Int32)) (fun M17 _ => ?_)
  refine X_iconst k_i_0 d20 ?_
  refine X_istoren (lv' := [(2, vi (0 : Int32)), (0, vr a0), (1, vi a1)]) d21 (by decide) rfl ?_
  refine X_sub [1, 2, 0] rfl ?_
  exact T8_readsRuleSigns_b22 M17 a0 a1 (0 : Int32)

theorem dd8_readsRuleCost_b72 : AllD (ib i8_readsRuleCost) [(72, .aload_n 0, 1), (73, .iconst 4, 1), (74, .invokevirtual 104, 3), (77, .ireturn, 1)] := allD_of (by decide +kernel)
def f8_readsRuleCost_b72 (M : MM) (a0 : Nat) : Option (Int32 × MM) :=
  aO M a0 8 <|
  cI (f8_fail M a0 (4 : Int32)) fun r74 M74 =>
  gd (r74 = 0 ∨ r74 = 1) <|
  some (r74, M74)
set_option maxRecDepth 4000 in
theorem T8_readsRuleCost_b72 : ∀ (M : MM) (a0 : Nat), X Li i8_readsRuleCost 72 [(0, vr a0)] [] M (f8_readsRuleCost_b72 M a0) := by
  obtain ⟨d72, d73, d74, d77, -⟩ := dd8_readsRuleCost_b72
  intro M a0
  unfold f8_readsRuleCost_b72
  refine X_aloadn 0 d72 rfl ?_
  refine X_iconst k_i_4 d73 ?_
  refine X_cVi (as := [vi (4 : Int32)]) d74 cv_x8_104 ⟨by decide, by decide⟩ rfl (Nat.le_of_ble_eq_true rfl) (T8_fail M a0 (4 : Int32)) (fun r74 M74 _ => ?_)
  exact X_zreturn d77 rfl rfl

theorem dd8_readsRuleCost : AllD (ib i8_readsRuleCost) [(0, .aload_n 0, 1), (1, .getfield 22, 3), (4, .iload_n 1, 1), (5, .bipush 6, 2), (7, .iconst 1, 1), (8, .invokevirtual 152, 3), (11, .aload_n 0, 1), (12, .getfield 18, 3), (15, .ldc2_w 158, 3), (18, .invokevirtual 42, 3), (21, .ifCond .ne 5, 3), (24, .iconst 1, 1), (25, .ireturn, 1), (26, .aload_n 0, 1), (27, .getfield 18, 3), (30, .invokevirtual 111, 3), (33, .aload_n 0, 1), (34, .getfield 18, 3), (37, .getfield 35, 3), (40, .iconst 3, 1), (41, .if_icmp .eq 8, 3), (44, .aload_n 0, 1), (45, .invokevirtual 65, 3), (48, .ireturn, 1), (49, .aload_n 0, 1), (50, .getfield 18, 3), (53, .getfield 160, 3), (56, .iconst 1, 1), (57, .if_icmp .lt 15, 3), (60, .aload_n 0, 1), (61, .getfield 18, 3), (64, .getfield 160, 3), (67, .bipush 99, 2), (69, .if_icmp .le 9, 3), (78, .aload_n 0, 1), (79, .getfield 22, 3), (82, .iload_n 1, 1), (83, .bipush 6, 2), (85, .aload_n 0, 1), (86, .getfield 18, 3), (89, .getfield 160, 3), (92, .invokevirtual 152, 3), (95, .aload_n 0, 1), (96, .getfield 18, 3), (99, .invokevirtual 111, 3), (102, .iconst 1, 1), (103, .ireturn, 1)] := allD_of (by decide +kernel)
def f8_readsRuleCost (M : MM) (a0 : Nat) (a1 : Int32) : Option (Int32 × MM) :=
  aO M a0 8 <|
  aO M (mR M a0 1) 7 <|
  cV (f7_setRule M (mR M a0 1) a1 (6 : Int32) (1 : Int32)) fun M8 =>
  aO M8 a0 8 <|
  aO M8 (mR M8 a0 0) 9 <|
  cI (f9_isWord M8 (mR M8 a0 0) (1668248436 : Int64)) fun r18 M18 =>
  if r18 = 0 then
    some ((1 : Int32), M18)
  else
    aO M18 a0 8 <|
    aO M18 (mR M18 a0 0) 9 <|
    cV (f9_takeNext M18 (mR M18 a0 0)) fun M30 =>
    aO M30 a0 8 <|
    aO M30 (mR M30 a0 0) 9 <|
    if (mI M30 (mR M30 a0 0) 3) = (3 : Int32) then
      aO M30 a0 8 <|
      aO M30 (mR M30 a0 0) 9 <|
      if (mI M30 (mR M30 a0 0) 6) < (1 : Int32) then
        f8_readsRuleCost_b72 M30 a0
      else
        aO M30 a0 8 <|
        aO M30 (mR M30 a0 0) 9 <|
        if (mI M30 (mR M30 a0 0) 6) ≤ (99 : Int32) then
          aO M30 a0 8 <|
          aO M30 a0 8 <|
          aO M30 (mR M30 a0 0) 9 <|
          aO M30 (mR M30 a0 1) 7 <|
          cV (f7_setRule M30 (mR M30 a0 1) a1 (6 : Int32) (mI M30 (mR M30 a0 0) 6)) fun M92 =>
          aO M92 a0 8 <|
          aO M92 (mR M92 a0 0) 9 <|
          cV (f9_takeNext M92 (mR M92 a0 0)) fun M99 =>
          some ((1 : Int32), M99)
        else
          f8_readsRuleCost_b72 M30 a0
    else
      aO M30 a0 8 <|
      cI (f8_refuse M30 a0) fun r45 M45 =>
      gd (r45 = 0 ∨ r45 = 1) <|
      some (r45, M45)
set_option maxRecDepth 4000 in
theorem T8_readsRuleCost (M : MM) (a0 : Nat) (a1 : Int32) : ∀ q, f8_readsRuleCost M a0 a1 = some q → Run i8_readsRuleCost [vr a0, vi a1] M (Li q) := by
  obtain ⟨d0, d1, d4, d5, d7, d8, d11, d12, d15, d18, d21, d24, d25, d26, d27, d30, d33, d34, d37, d40, d41, d44, d45, d48, d49, d50, d53, d56, d57, d60, d61, d64, d67, d69, d78, d79, d82, d83, d85, d86, d89, d92, d95, d96, d99, d102, d103, -⟩ := dd8_readsRuleCost
  refine Run_of_X (by decide) (Nat.le_of_ble_eq_true rfl) ?_
  show X Li i8_readsRuleCost 0 [(0, vr a0), (1, vi a1)] [] M _
  unfold f8_readsRuleCost
  refine X_aloadn 0 d0 rfl ?_
  refine X_getR d1 fg_x8_22 ?_
  refine X_iloadn 1 d4 rfl ?_
  refine X_bipush k_b_6 d5 ?_
  refine X_iconst k_i_1 d7 ?_
  refine X_cVv (as := [vi a1, vi (6 : Int32), vi (1 : Int32)]) d8 cv_x8_152 ⟨by decide, by decide⟩ rfl (Nat.le_of_ble_eq_true rfl) (T7_setRule M (mR M a0 1) a1 (6 : Int32) (1 : Int32)) (fun M8 _ => ?_)
  refine X_aloadn 0 d11 rfl ?_
  refine X_getR d12 fg_x8_18 ?_
  refine X_ldc2 kc_x8_158 d15 ?_
  refine X_cVi (as := [vl (1668248436 : Int64)]) d18 cv_x8_42 ⟨by decide, by decide⟩ rfl (Nat.le_of_ble_eq_true rfl) (T9_isWord M8 (mR M8 a0 0) (1668248436 : Int64)) (fun r18 M18 _ => ?_)
  refine X_if_ne (t := 26) d21 rfl (fun h21 => ?_) (fun h21 => ?_)
  · refine X_iconst k_i_1 d24 ?_
    exact X_zreturnc d25 rfl (by decide) rfl
  · refine X_aloadn 0 d26 rfl ?_
    refine X_getR d27 fg_x8_18 ?_
    refine X_cVv (as := []) d30 cv_x8_111 ⟨by decide, by decide⟩ rfl (Nat.le_of_ble_eq_true rfl) (T9_takeNext M18 (mR M18 a0 0)) (fun M30 _ => ?_)
    refine X_aloadn 0 d33 rfl ?_
    refine X_getR d34 fg_x8_18 ?_
    refine X_getI d37 fg_x8_35 ?_
    refine X_iconst k_i_3 d40 ?_
    refine X_icmp_eq (t := 49) d41 rfl (fun h41 => ?_) (fun h41 => ?_)
    · refine X_aloadn 0 d49 rfl ?_
      refine X_getR d50 fg_x8_18 ?_
      refine X_getI d53 fg_x8_160 ?_
      refine X_iconst k_i_1 d56 ?_
      refine X_icmp_lt (t := 72) d57 rfl (fun h57 => ?_) (fun h57 => ?_)
      · refine X_sub [0] rfl ?_
        exact T8_readsRuleCost_b72 M30 a0
      · refine X_aloadn 0 d60 rfl ?_
        refine X_getR d61 fg_x8_18 ?_
        refine X_getI d64 fg_x8_160 ?_
        refine X_bipush k_b_99 d67 ?_
        refine X_icmp_le (t := 78) d69 rfl (fun h69 => ?_) (fun h69 => ?_)
        · refine X_aloadn 0 d78 rfl ?_
          refine X_getR d79 fg_x8_22 ?_
          refine X_iloadn 1 d82 rfl ?_
          refine X_bipush k_b_6 d83 ?_
          refine X_aloadn 0 d85 rfl ?_
          refine X_getR d86 fg_x8_18 ?_
          refine X_getI d89 fg_x8_160 ?_
          refine X_cVv (as := [vi a1, vi (6 : Int32), vi (mI M30 (mR M30 a0 0) 6)]) d92 cv_x8_152 ⟨by decide, by decide⟩ rfl (Nat.le_of_ble_eq_true rfl) (T7_setRule M30 (mR M30 a0 1) a1 (6 : Int32) (mI M30 (mR M30 a0 0) 6)) (fun M92 _ => ?_)
          refine X_aloadn 0 d95 rfl ?_
          refine X_getR d96 fg_x8_18 ?_
          refine X_cVv (as := []) d99 cv_x8_111 ⟨by decide, by decide⟩ rfl (Nat.le_of_ble_eq_true rfl) (T9_takeNext M92 (mR M92 a0 0)) (fun M99 _ => ?_)
          refine X_iconst k_i_1 d102 ?_
          exact X_zreturnc d103 rfl (by decide) rfl
        · refine X_sub [0] rfl ?_
          exact T8_readsRuleCost_b72 M30 a0
    · refine X_aloadn 0 d44 rfl ?_
      refine X_cVi (as := []) d45 cv_x8_65 ⟨by decide, by decide⟩ rfl (Nat.le_of_ble_eq_true rfl) (T8_refuse M30 a0) (fun r45 M45 _ => ?_)
      exact X_zreturn d48 rfl rfl

theorem dd8_readsRule_b94 : AllD (ib i8_readsRule) [(94, .iconst 0, 1)] := allD_of (by decide +kernel)
def f8_readsRule_b94 (K95 : MM → Nat → Int32 → Option (Int32 × MM)) (M : MM) (a0 : Nat) : Option (Int32 × MM) :=
  K95 M a0 (0 : Int32)
set_option maxRecDepth 4000 in
theorem T8_readsRule_b94 {K95 : MM → Nat → Int32 → Option (Int32 × MM)} (hK95 : ∀ (M : MM) (a0 : Nat) (s0 : Int32), X Li i8_readsRule 95 [(0, vr a0)] [vi s0] M (K95 M a0 s0)) : ∀ (M : MM) (a0 : Nat), X Li i8_readsRule 94 [(0, vr a0)] [] M (f8_readsRule_b94 K95 M a0) := by
  obtain ⟨d94, -⟩ := dd8_readsRule_b94
  intro M a0
  unfold f8_readsRule_b94
  refine X_iconst k_i_0 d94 ?_
  exact hK95 M a0 (0 : Int32)

theorem dd8_readsRule_b95 : AllD (ib i8_readsRule) [(95, .istore_n 2, 1), (96, .iload_n 2, 1), (97, .ifCond .eq 16, 3), (100, .aload_n 0, 1), (101, .getfield 22, 3), (104, .dup, 1), (105, .getfield 133, 3), (108, .iconst 1, 1), (109, .iadd, 1), (110, .putfield 133, 3), (113, .iload_n 2, 1), (114, .ireturn, 1)] := allD_of (by decide +kernel)
def f8_readsRule_b95 (M : MM) (a0 : Nat) (s0 : Int32) : Option (Int32 × MM) :=
  if s0 = 0 then
    gd (s0 = 0 ∨ s0 = 1) <|
    some (s0, M)
  else
    aO M a0 8 <|
    aO M (mR M a0 1) 7 <|
    aO M (mR M a0 1) 7 <|
    bM (sI M (mR M a0 1) 6 ((mI M (mR M a0 1) 6) + (1 : Int32))) fun M110 =>
    gd (s0 = 0 ∨ s0 = 1) <|
    some (s0, M110)
set_option maxRecDepth 4000 in
theorem T8_readsRule_b95 : ∀ (M : MM) (a0 : Nat) (s0 : Int32), X Li i8_readsRule 95 [(0, vr a0)] [vi s0] M (f8_readsRule_b95 M a0 s0) := by
  obtain ⟨d95, d96, d97, d100, d101, d104, d105, d108, d109, d110, d113, d114, -⟩ := dd8_readsRule_b95
  intro M a0 s0
  unfold f8_readsRule_b95
  refine X_istoren (lv' := [(2, vi s0), (0, vr a0)]) d95 (by decide) rfl ?_
  refine X_iloadn 0 d96 rfl ?_
  refine X_if_eq (t := 113) d97 rfl (fun h97 => ?_) (fun h97 => ?_)
  · refine X_iloadn 0 d113 rfl ?_
    exact X_zreturn d114 rfl rfl
  · refine X_aloadn 1 d100 rfl ?_
    refine X_getR d101 fg_x8_22 ?_
    refine X_dupr d104 ?_
    refine X_getI d105 fg_x8_133 ?_
    refine X_iconst k_i_1 d108 ?_
    refine X_iadd d109 ?_
    refine X_putI d110 fp_x8_133 ?_
    refine X_bM fun M110 _ => ?_
    refine X_iloadn 0 d113 rfl ?_
    exact X_zreturn d114 rfl rfl

theorem dd8_readsRule : AllD (ib i8_readsRule) [(0, .aload_n 0, 1), (1, .getfield 22, 3), (4, .getfield 133, 3), (7, .bipush 14, 2), (9, .if_icmp .lt 9, 3), (12, .aload_n 0, 1), (13, .iconst 5, 1), (14, .invokevirtual 104, 3), (17, .ireturn, 1), (18, .aload_n 0, 1), (19, .getfield 18, 3), (22, .invokevirtual 111, 3), (25, .aload_n 0, 1), (26, .getfield 22, 3), (29, .getfield 133, 3), (32, .istore_n 1, 1), (33, .aload_n 0, 1), (34, .iload_n 1, 1), (35, .iconst 0, 1), (36, .invokevirtual 136, 3), (39, .ifCond .eq 55, 3), (42, .aload_n 0, 1), (43, .iload_n 1, 1), (44, .iconst 1, 1), (45, .invokevirtual 140, 3), (48, .ifCond .eq 46, 3), (51, .aload_n 0, 1), (52, .invokevirtual 143, 3), (55, .ifCond .eq 39, 3), (58, .aload_n 0, 1), (59, .iload_n 1, 1), (60, .iconst 2, 1), (61, .invokevirtual 136, 3), (64, .ifCond .eq 30, 3), (67, .aload_n 0, 1), (68, .iload_n 1, 1), (69, .invokevirtual 146, 3), (72, .ifCond .eq 22, 3), (75, .aload_n 0, 1), (76, .iload_n 1, 1), (77, .invokevirtual 149, 3), (80, .ifCond .eq 14, 3), (83, .aload_n 0, 1), (84, .invokevirtual 121, 3), (87, .ifCond .eq 7, 3), (90, .iconst 1, 1), (91, .goto 4, 3)] := allD_of (by decide +kernel)
def f8_readsRule (M : MM) (a0 : Nat) : Option (Int32 × MM) :=
  aO M a0 8 <|
  aO M (mR M a0 1) 7 <|
  if (mI M (mR M a0 1) 6) < (14 : Int32) then
    aO M a0 8 <|
    aO M (mR M a0 0) 9 <|
    cV (f9_takeNext M (mR M a0 0)) fun M22 =>
    aO M22 a0 8 <|
    aO M22 (mR M22 a0 1) 7 <|
    bW (mI M22 (mR M22 a0 1) 6) fun v32 =>
    aO M22 a0 8 <|
    cI (f8_readsRuleState M22 a0 v32 (0 : Int32)) fun r36 M36 =>
    if r36 = 0 then
      (f8_readsRule_b94 f8_readsRule_b95) M36 a0
    else
      aO M36 a0 8 <|
      cI (f8_readsRuleSign M36 a0 v32 (1 : Int32)) fun r45 M45 =>
      if r45 = 0 then
        (f8_readsRule_b94 f8_readsRule_b95) M45 a0
      else
        aO M45 a0 8 <|
        cI (f8_readsTo M45 a0) fun r52 M52 =>
        if r52 = 0 then
          (f8_readsRule_b94 f8_readsRule_b95) M52 a0
        else
          aO M52 a0 8 <|
          cI (f8_readsRuleState M52 a0 v32 (2 : Int32)) fun r61 M61 =>
          if r61 = 0 then
            (f8_readsRule_b94 f8_readsRule_b95) M61 a0
          else
            aO M61 a0 8 <|
            cI (f8_readsRuleSigns M61 a0 v32) fun r69 M69 =>
            if r69 = 0 then
              (f8_readsRule_b94 f8_readsRule_b95) M69 a0
            else
              aO M69 a0 8 <|
              cI (f8_readsRuleCost M69 a0 v32) fun r77 M77 =>
              if r77 = 0 then
                (f8_readsRule_b94 f8_readsRule_b95) M77 a0
              else
                aO M77 a0 8 <|
                cI (f8_readsSemicolon M77 a0) fun r84 M84 =>
                if r84 = 0 then
                  (f8_readsRule_b94 f8_readsRule_b95) M84 a0
                else
                  f8_readsRule_b95 M84 a0 (1 : Int32)
  else
    aO M a0 8 <|
    cI (f8_fail M a0 (5 : Int32)) fun r14 M14 =>
    gd (r14 = 0 ∨ r14 = 1) <|
    some (r14, M14)
set_option maxRecDepth 4000 in
theorem T8_readsRule (M : MM) (a0 : Nat) : ∀ q, f8_readsRule M a0 = some q → Run i8_readsRule [vr a0] M (Li q) := by
  obtain ⟨d0, d1, d4, d7, d9, d12, d13, d14, d17, d18, d19, d22, d25, d26, d29, d32, d33, d34, d35, d36, d39, d42, d43, d44, d45, d48, d51, d52, d55, d58, d59, d60, d61, d64, d67, d68, d69, d72, d75, d76, d77, d80, d83, d84, d87, d90, d91, -⟩ := dd8_readsRule
  refine Run_of_X (by decide) (Nat.le_of_ble_eq_true rfl) ?_
  show X Li i8_readsRule 0 [(0, vr a0)] [] M _
  unfold f8_readsRule
  refine X_aloadn 0 d0 rfl ?_
  refine X_getR d1 fg_x8_22 ?_
  refine X_getI d4 fg_x8_133 ?_
  refine X_bipush k_b_14 d7 ?_
  refine X_icmp_lt (t := 18) d9 rfl (fun h9 => ?_) (fun h9 => ?_)
  · refine X_aloadn 0 d18 rfl ?_
    refine X_getR d19 fg_x8_18 ?_
    refine X_cVv (as := []) d22 cv_x8_111 ⟨by decide, by decide⟩ rfl (Nat.le_of_ble_eq_true rfl) (T9_takeNext M (mR M a0 0)) (fun M22 _ => ?_)
    refine X_aloadn 0 d25 rfl ?_
    refine X_getR d26 fg_x8_22 ?_
    refine X_getI d29 fg_x8_133 ?_
    refine X_bWi fun v32 _ => ?_
    refine X_istoren (lv' := [(1, vi v32), (0, vr a0)]) d32 (by decide) rfl ?_
    refine X_aloadn 1 d33 rfl ?_
    refine X_iloadn 0 d34 rfl ?_
    refine X_iconst k_i_0 d35 ?_
    refine X_cVi (as := [vi v32, vi (0 : Int32)]) d36 cv_x8_136 ⟨by decide, by decide⟩ rfl (Nat.le_of_ble_eq_true rfl) (T8_readsRuleState M22 a0 v32 (0 : Int32)) (fun r36 M36 _ => ?_)
    refine X_if_eq (t := 94) d39 rfl (fun h39 => ?_) (fun h39 => ?_)
    · refine X_sub [1] rfl ?_
      exact (T8_readsRule_b94 T8_readsRule_b95) M36 a0
    · refine X_aloadn 1 d42 rfl ?_
      refine X_iloadn 0 d43 rfl ?_
      refine X_iconst k_i_1 d44 ?_
      refine X_cVi (as := [vi v32, vi (1 : Int32)]) d45 cv_x8_140 ⟨by decide, by decide⟩ rfl (Nat.le_of_ble_eq_true rfl) (T8_readsRuleSign M36 a0 v32 (1 : Int32)) (fun r45 M45 _ => ?_)
      refine X_if_eq (t := 94) d48 rfl (fun h48 => ?_) (fun h48 => ?_)
      · refine X_sub [1] rfl ?_
        exact (T8_readsRule_b94 T8_readsRule_b95) M45 a0
      · refine X_aloadn 1 d51 rfl ?_
        refine X_cVi (as := []) d52 cv_x8_143 ⟨by decide, by decide⟩ rfl (Nat.le_of_ble_eq_true rfl) (T8_readsTo M45 a0) (fun r52 M52 _ => ?_)
        refine X_if_eq (t := 94) d55 rfl (fun h55 => ?_) (fun h55 => ?_)
        · refine X_sub [1] rfl ?_
          exact (T8_readsRule_b94 T8_readsRule_b95) M52 a0
        · refine X_aloadn 1 d58 rfl ?_
          refine X_iloadn 0 d59 rfl ?_
          refine X_iconst k_i_2 d60 ?_
          refine X_cVi (as := [vi v32, vi (2 : Int32)]) d61 cv_x8_136 ⟨by decide, by decide⟩ rfl (Nat.le_of_ble_eq_true rfl) (T8_readsRuleState M52 a0 v32 (2 : Int32)) (fun r61 M61 _ => ?_)
          refine X_if_eq (t := 94) d64 rfl (fun h64 => ?_) (fun h64 => ?_)
          · refine X_sub [1] rfl ?_
            exact (T8_readsRule_b94 T8_readsRule_b95) M61 a0
          · refine X_aloadn 1 d67 rfl ?_
            refine X_iloadn 0 d68 rfl ?_
            refine X_cVi (as := [vi v32]) d69 cv_x8_146 ⟨by decide, by decide⟩ rfl (Nat.le_of_ble_eq_true rfl) (T8_readsRuleSigns M61 a0 v32) (fun r69 M69 _ => ?_)
            refine X_if_eq (t := 94) d72 rfl (fun h72 => ?_) (fun h72 => ?_)
            · refine X_sub [1] rfl ?_
              exact (T8_readsRule_b94 T8_readsRule_b95) M69 a0
            · refine X_aloadn 1 d75 rfl ?_
              refine X_iloadn 0 d76 rfl ?_
              refine X_cVi (as := [vi v32]) d77 cv_x8_149 ⟨by decide, by decide⟩ rfl (Nat.le_of_ble_eq_true rfl) (T8_readsRuleCost M69 a0 v32) (fun r77 M77 _ => ?_)
              refine X_if_eq (t := 94) d80 rfl (fun h80 => ?_) (fun h80 => ?_)
              · refine X_sub [1] rfl ?_
                exact (T8_readsRule_b94 T8_readsRule_b95) M77 a0
              · refine X_aloadn 1 d83 rfl ?_
                refine X_cVi (as := []) d84 cv_x8_121 ⟨by decide, by decide⟩ rfl (Nat.le_of_ble_eq_true rfl) (T8_readsSemicolon M77 a0) (fun r84 M84 _ => ?_)
                refine X_if_eq (t := 94) d87 rfl (fun h87 => ?_) (fun h87 => ?_)
                · refine X_sub [1] rfl ?_
                  exact (T8_readsRule_b94 T8_readsRule_b95) M84 a0
                · refine X_iconst k_i_1 d90 ?_
                  refine X_goto (t := 95) d91 rfl ?_
                  refine X_sub [1] rfl ?_
                  exact T8_readsRule_b95 M84 a0 (1 : Int32)
  · refine X_aloadn 0 d12 rfl ?_
    refine X_iconst k_i_5 d13 ?_
    refine X_cVi (as := [vi (5 : Int32)]) d14 cv_x8_104 ⟨by decide, by decide⟩ rfl (Nat.le_of_ble_eq_true rfl) (T8_fail M a0 (5 : Int32)) (fun r14 M14 _ => ?_)
    exact X_zreturn d17 rfl rfl

theorem dd8_readsProgram_b123 : AllD (ib i8_readsProgram) [(123, .iinc 3 1, 3), (126, .goto (-113), 3)] := allD_of (by decide +kernel)
def f8_readsProgram_b123 (K13 : MM → Nat → Int32 → Int32 → Option (Int32 × MM)) (M : MM) (a0 : Nat) (a2 : Int32) (a3 : Int32) : Option (Int32 × MM) :=
  K13 M a0 a2 (a3 + (1 : Int32))
set_option maxRecDepth 4000 in
theorem T8_readsProgram_b123 {K13 : MM → Nat → Int32 → Int32 → Option (Int32 × MM)} (hK13 : ∀ (M : MM) (a0 : Nat) (a2 : Int32) (a3 : Int32), X Li i8_readsProgram 13 [(0, vr a0), (2, vi a2), (3, vi a3)] [] M (K13 M a0 a2 a3)) : ∀ (M : MM) (a0 : Nat) (a2 : Int32) (a3 : Int32), X Li i8_readsProgram 123 [(0, vr a0), (2, vi a2), (3, vi a3)] [] M (f8_readsProgram_b123 K13 M a0 a2 a3) := by
  obtain ⟨d123, d126, -⟩ := dd8_readsProgram_b123
  intro M a0 a2 a3
  unfold f8_readsProgram_b123
  refine X_inc (lv' := [(3, vi (a3 + (1 : Int32))), (0, vr a0), (2, vi a2)]) 2 d123 k_i_1 rfl (by decide) rfl ?_
  refine X_goto (t := 13) d126 rfl ?_
  refine X_sub [1, 2, 0] rfl ?_
  exact hK13 M a0 a2 (a3 + (1 : Int32))

theorem dd8_readsProgram_b13 : AllD (ib i8_readsProgram) [(13, .iload_n 2, 1), (14, .ifCond .eq 115, 3), (17, .iload_n 3, 1), (18, .sipush 800, 3), (21, .if_icmp .ge 108, 3), (24, .aload_n 0, 1), (25, .getfield 18, 3), (28, .getfield 35, 3), (31, .ifCond .eq 98, 3), (34, .aload_n 0, 1), (35, .getfield 18, 3), (38, .ldc2_w 40, 3), (41, .invokevirtual 42, 3), (44, .ifCond .eq 11, 3), (47, .aload_n 0, 1), (48, .invokevirtual 46, 3), (51, .istore_n 2, 1), (52, .goto 71, 3), (55, .aload_n 0, 1), (56, .getfield 18, 3), (59, .ldc2_w 50, 3), (62, .invokevirtual 42, 3), (65, .ifCond .eq 11, 3), (68, .aload_n 0, 1), (69, .invokevirtual 52, 3), (72, .istore_n 2, 1), (73, .goto 50, 3), (76, .aload_n 0, 1), (77, .getfield 18, 3), (80, .ldc2_w 55, 3), (83, .invokevirtual 42, 3), (86, .ifCond .eq 11, 3), (89, .aload_n 0, 1), (90, .invokevirtual 57, 3), (93, .istore_n 2, 1), (94, .goto 29, 3), (97, .aload_n 0, 1), (98, .getfield 18, 3), (101, .ldc2_w 60, 3), (104, .invokevirtual 42, 3), (107, .ifCond .eq 11, 3), (110, .aload_n 0, 1), (111, .invokevirtual 62, 3), (114, .istore_n 2, 1), (115, .goto 8, 3), (118, .aload_n 0, 1), (119, .invokevirtual 65, 3), (122, .istore_n 2, 1), (129, .iload_n 2, 1), (130, .ireturn, 1)] := allD_of (by decide +kernel)
def f8_readsProgram_b13_body (rc : MM → Nat → Int32 → Int32 → Option (Int32 × MM)) (M : MM) (a0 : Nat) (a2 : Int32) (a3 : Int32) : Option (Int32 × MM) :=
  if a2 = 0 then
    gd (a2 = 0 ∨ a2 = 1) <|
    some (a2, M)
  else
    if (800 : Int32) ≤ a3 then
      gd (a2 = 0 ∨ a2 = 1) <|
      some (a2, M)
    else
      aO M a0 8 <|
      aO M (mR M a0 0) 9 <|
      if (mI M (mR M a0 0) 3) = 0 then
        gd (a2 = 0 ∨ a2 = 1) <|
        some (a2, M)
      else
        aO M a0 8 <|
        aO M (mR M a0 0) 9 <|
        cI (f9_isWord M (mR M a0 0) (495873782885 : Int64)) fun r41 M41 =>
        if r41 = 0 then
          aO M41 a0 8 <|
          aO M41 (mR M41 a0 0) 9 <|
          cI (f9_isWord M41 (mR M41 a0 0) (1936287598 : Int64)) fun r62 M62 =>
          if r62 = 0 then
            aO M62 a0 8 <|
            aO M62 (mR M62 a0 0) 9 <|
            cI (f9_isWord M62 (mR M62 a0 0) (1920298085 : Int64)) fun r83 M83 =>
            if r83 = 0 then
              aO M83 a0 8 <|
              aO M83 (mR M83 a0 0) 9 <|
              cI (f9_isWord M83 (mR M83 a0 0) (1735352684 : Int64)) fun r104 M104 =>
              if r104 = 0 then
                aO M104 a0 8 <|
                cI (f8_refuse M104 a0) fun r119 M119 =>
                (f8_readsProgram_b123 rc) M119 a0 r119 a3
              else
                aO M104 a0 8 <|
                cI (f8_readsGoal M104 a0) fun r111 M111 =>
                (f8_readsProgram_b123 rc) M111 a0 r111 a3
            else
              aO M83 a0 8 <|
              cI (f8_readsRule M83 a0) fun r90 M90 =>
              (f8_readsProgram_b123 rc) M90 a0 r90 a3
          else
            aO M62 a0 8 <|
            cI (f8_readsSign M62 a0) fun r69 M69 =>
            (f8_readsProgram_b123 rc) M69 a0 r69 a3
        else
          aO M41 a0 8 <|
          cI (f8_readsState M41 a0) fun r48 M48 =>
          (f8_readsProgram_b123 rc) M48 a0 r48 a3
def f8_readsProgram_b13 : MM → Nat → Int32 → Int32 → Option (Int32 × MM) := LP4 (f8_readsProgram_b13_body) FU
set_option maxRecDepth 4000 in
theorem T8_readsProgram_b13 : ∀ (M : MM) (a0 : Nat) (a2 : Int32) (a3 : Int32), X Li i8_readsProgram 13 [(0, vr a0), (2, vi a2), (3, vi a3)] [] M (f8_readsProgram_b13 M a0 a2 a3) := by
  obtain ⟨d13, d14, d17, d18, d21, d24, d25, d28, d31, d34, d35, d38, d41, d44, d47, d48, d51, d52, d55, d56, d59, d62, d65, d68, d69, d72, d73, d76, d77, d80, d83, d86, d89, d90, d93, d94, d97, d98, d101, d104, d107, d110, d111, d114, d115, d118, d119, d122, d129, d130, -⟩ := dd8_readsProgram_b13
  refine LP4_i (P := fun M a0 a2 a3 o => X Li i8_readsProgram 13 [(0, vr a0), (2, vi a2), (3, vi a3)] [] M o) (fun _ _ _ _ => X_none) (fun rc ih M a0 a2 a3 => ?_) FU
  unfold f8_readsProgram_b13_body
  refine X_iloadn 1 d13 rfl ?_
  refine X_if_eq (t := 129) d14 rfl (fun h14 => ?_) (fun h14 => ?_)
  · refine X_iloadn 1 d129 rfl ?_
    exact X_zreturn d130 rfl rfl
  · refine X_iloadn 2 d17 rfl ?_
    refine X_sipush k_s_800 d18 ?_
    refine X_icmp_ge (t := 129) d21 rfl (fun h21 => ?_) (fun h21 => ?_)
    · refine X_iloadn 1 d129 rfl ?_
      exact X_zreturn d130 rfl rfl
    · refine X_aloadn 0 d24 rfl ?_
      refine X_getR d25 fg_x8_18 ?_
      refine X_getI d28 fg_x8_35 ?_
      refine X_if_eq (t := 129) d31 rfl (fun h31 => ?_) (fun h31 => ?_)
      · refine X_iloadn 1 d129 rfl ?_
        exact X_zreturn d130 rfl rfl
      · refine X_aloadn 0 d34 rfl ?_
        refine X_getR d35 fg_x8_18 ?_
        refine X_ldc2 kc_x8_40 d38 ?_
        refine X_cVi (as := [vl (495873782885 : Int64)]) d41 cv_x8_42 ⟨by decide, by decide⟩ rfl (Nat.le_of_ble_eq_true rfl) (T9_isWord M (mR M a0 0) (495873782885 : Int64)) (fun r41 M41 _ => ?_)
        refine X_if_eq (t := 55) d44 rfl (fun h44 => ?_) (fun h44 => ?_)
        · refine X_aloadn 0 d55 rfl ?_
          refine X_getR d56 fg_x8_18 ?_
          refine X_ldc2 kc_x8_50 d59 ?_
          refine X_cVi (as := [vl (1936287598 : Int64)]) d62 cv_x8_42 ⟨by decide, by decide⟩ rfl (Nat.le_of_ble_eq_true rfl) (T9_isWord M41 (mR M41 a0 0) (1936287598 : Int64)) (fun r62 M62 _ => ?_)
          refine X_if_eq (t := 76) d65 rfl (fun h65 => ?_) (fun h65 => ?_)
          · refine X_aloadn 0 d76 rfl ?_
            refine X_getR d77 fg_x8_18 ?_
            refine X_ldc2 kc_x8_55 d80 ?_
            refine X_cVi (as := [vl (1920298085 : Int64)]) d83 cv_x8_42 ⟨by decide, by decide⟩ rfl (Nat.le_of_ble_eq_true rfl) (T9_isWord M62 (mR M62 a0 0) (1920298085 : Int64)) (fun r83 M83 _ => ?_)
            refine X_if_eq (t := 97) d86 rfl (fun h86 => ?_) (fun h86 => ?_)
            · refine X_aloadn 0 d97 rfl ?_
              refine X_getR d98 fg_x8_18 ?_
              refine X_ldc2 kc_x8_60 d101 ?_
              refine X_cVi (as := [vl (1735352684 : Int64)]) d104 cv_x8_42 ⟨by decide, by decide⟩ rfl (Nat.le_of_ble_eq_true rfl) (T9_isWord M83 (mR M83 a0 0) (1735352684 : Int64)) (fun r104 M104 _ => ?_)
              refine X_if_eq (t := 118) d107 rfl (fun h107 => ?_) (fun h107 => ?_)
              · refine X_aloadn 0 d118 rfl ?_
                refine X_cVi (as := []) d119 cv_x8_65 ⟨by decide, by decide⟩ rfl (Nat.le_of_ble_eq_true rfl) (T8_refuse M104 a0) (fun r119 M119 _ => ?_)
                refine X_istoren (lv' := [(2, vi r119), (0, vr a0), (3, vi a3)]) d122 (by decide) rfl ?_
                refine X_sub [1, 0, 2] rfl ?_
                exact (T8_readsProgram_b123 ih) M119 a0 r119 a3
              · refine X_aloadn 0 d110 rfl ?_
                refine X_cVi (as := []) d111 cv_x8_62 ⟨by decide, by decide⟩ rfl (Nat.le_of_ble_eq_true rfl) (T8_readsGoal M104 a0) (fun r111 M111 _ => ?_)
                refine X_istoren (lv' := [(2, vi r111), (0, vr a0), (3, vi a3)]) d114 (by decide) rfl ?_
                refine X_goto (t := 123) d115 rfl ?_
                refine X_sub [1, 0, 2] rfl ?_
                exact (T8_readsProgram_b123 ih) M111 a0 r111 a3
            · refine X_aloadn 0 d89 rfl ?_
              refine X_cVi (as := []) d90 cv_x8_57 ⟨by decide, by decide⟩ rfl (Nat.le_of_ble_eq_true rfl) (T8_readsRule M83 a0) (fun r90 M90 _ => ?_)
              refine X_istoren (lv' := [(2, vi r90), (0, vr a0), (3, vi a3)]) d93 (by decide) rfl ?_
              refine X_goto (t := 123) d94 rfl ?_
              refine X_sub [1, 0, 2] rfl ?_
              exact (T8_readsProgram_b123 ih) M90 a0 r90 a3
          · refine X_aloadn 0 d68 rfl ?_
            refine X_cVi (as := []) d69 cv_x8_52 ⟨by decide, by decide⟩ rfl (Nat.le_of_ble_eq_true rfl) (T8_readsSign M62 a0) (fun r69 M69 _ => ?_)
            refine X_istoren (lv' := [(2, vi r69), (0, vr a0), (3, vi a3)]) d72 (by decide) rfl ?_
            refine X_goto (t := 123) d73 rfl ?_
            refine X_sub [1, 0, 2] rfl ?_
            exact (T8_readsProgram_b123 ih) M69 a0 r69 a3
        · refine X_aloadn 0 d47 rfl ?_
          refine X_cVi (as := []) d48 cv_x8_46 ⟨by decide, by decide⟩ rfl (Nat.le_of_ble_eq_true rfl) (T8_readsState M41 a0) (fun r48 M48 _ => ?_)
          refine X_istoren (lv' := [(2, vi r48), (0, vr a0), (3, vi a3)]) d51 (by decide) rfl ?_
          refine X_goto (t := 123) d52 rfl ?_
          refine X_sub [1, 0, 2] rfl ?_
          exact (T8_readsProgram_b123 ih) M48 a0 r48 a3

theorem dd8_readsProgram : AllD (ib i8_readsProgram) [(0, .aload_n 0, 1), (1, .aload_n 1, 1), (2, .invokevirtual 26, 3), (5, .aload_n 1, 1), (6, .invokevirtual 30, 3), (9, .iconst 1, 1), (10, .istore_n 2, 1), (11, .iconst 0, 1), (12, .istore_n 3, 1)] := allD_of (by decide +kernel)
def f8_readsProgram (M : MM) (a0 : Nat) (a1 : Nat) : Option (Int32 × MM) :=
  aO M a0 8 <|
  cV (f8_begin M a0 a1) fun M2 =>
  aO M2 a1 7 <|
  cV (f7_clear M2 a1) fun M6 =>
  f8_readsProgram_b13 M6 a0 (1 : Int32) (0 : Int32)
set_option maxRecDepth 4000 in
theorem T8_readsProgram (M : MM) (a0 : Nat) (a1 : Nat) : ∀ q, f8_readsProgram M a0 a1 = some q → Run i8_readsProgram [vr a0, vr a1] M (Li q) := by
  obtain ⟨d0, d1, d2, d5, d6, d9, d10, d11, d12, -⟩ := dd8_readsProgram
  refine Run_of_X (by decide) (Nat.le_of_ble_eq_true rfl) ?_
  show X Li i8_readsProgram 0 [(0, vr a0), (1, vr a1)] [] M _
  unfold f8_readsProgram
  refine X_aloadn 0 d0 rfl ?_
  refine X_aloadn 1 d1 rfl ?_
  refine X_cVv (as := [vr a1]) d2 cv_x8_26 ⟨by decide, by decide⟩ rfl (Nat.le_of_ble_eq_true rfl) (T8_begin M a0 a1) (fun M2 _ => ?_)
  refine X_aloadn 1 d5 rfl ?_
  refine X_cVv (as := []) d6 cv_x8_30 ⟨by decide, by decide⟩ rfl (Nat.le_of_ble_eq_true rfl) (T7_clear M2 a1) (fun M6 _ => ?_)
  refine X_iconst k_i_1 d9 ?_
  refine X_istoren (lv' := [(2, vi (1 : Int32)), (0, vr a0), (1, vr a1)]) d10 (by decide) rfl ?_
  refine X_iconst k_i_0 d11 ?_
  refine X_istoren (lv' := [(3, vi (0 : Int32)), (2, vi (1 : Int32)), (0, vr a0), (1, vr a1)]) d12 (by decide) rfl ?_
  refine X_sub [2, 1, 0] rfl ?_
  exact T8_readsProgram_b13 M6 a0 (1 : Int32) (0 : Int32)

