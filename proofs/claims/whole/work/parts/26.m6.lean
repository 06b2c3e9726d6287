/-! printed by program: methods as functions, and that the bytecode does what they tell -/
theorem dd12_oneOf_b44 : AllD (ib i12_oneOf) [(44, .invokevirtual 206, 3)] := allD_of (by decide +kernel)
def f12_oneOf_b44 (K47 : MM → Nat → Int32 → Option (Int32 × MM)) (M : MM) (a0 : Nat) (a3 : Int32) (s0 : Int32) (s1 : Nat) : Option (Int32 × MM) :=
  aO M s1 12 <|
  cV (f12_fails M s1 s0) fun M44 =>
  K47 M44 a0 a3
set_option maxRecDepth 4000 in
theorem T12_oneOf_b44 {K47 : MM → Nat → Int32 → Option (Int32 × MM)} (hK47 : ∀ (M : MM) (a0 : Nat) (a3 : Int32), X Li i12_oneOf 47 [(0, vr a0), (3, vi a3)] [] M (K47 M a0 a3)) : ∀ (M : MM) (a0 : Nat) (a3 : Int32) (s0 : Int32) (s1 : Nat), X Li i12_oneOf 44 [(0, vr a0), (3, vi a3)] [vi s0, vr s1] M (f12_oneOf_b44 K47 M a0 a3 s0 s1) := by
  obtain ⟨d44, -⟩ := dd12_oneOf_b44
  intro M a0 a3 s0 s1
  unfold f12_oneOf_b44
  refine X_cVv (as := [vi s0]) d44 cv_x12_206 ⟨by decide, by decide⟩ rfl (Nat.le_of_ble_eq_true rfl) (T12_fails M s1 s0) (fun M44 _ => ?_)
  exact hK47 M44 a0 a3

theorem dd12_oneOf_b47 : AllD (ib i12_oneOf) [(47, .aload_n 0, 1), (48, .invokevirtual 209, 3), (51, .iload_n 3, 1), (52, .ireturn, 1)] := allD_of (by decide +kernel)
def f12_oneOf_b47 (M : MM) (a0 : Nat) (a3 : Int32) : Option (Int32 × MM) :=
  aO M a0 12 <|
  cV (f12_goOn M a0) fun M48 =>
  some (a3, M48)
set_option maxRecDepth 4000 in
theorem T12_oneOf_b47 : ∀ (M : MM) (a0 : Nat) (a3 : Int32), X Li i12_oneOf 47 [(0, vr a0), (3, vi a3)] [] M (f12_oneOf_b47 M a0 a3) := by
  obtain ⟨d47, d48, d51, d52, -⟩ := dd12_oneOf_b47
  intro M a0 a3
  unfold f12_oneOf_b47
  refine X_aloadn 0 d47 rfl ?_
  refine X_cVv (as := []) d48 cv_x12_209 ⟨by decide, by decide⟩ rfl (Nat.le_of_ble_eq_true rfl) (T12_goOn M a0) (fun M48 _ => ?_)
  refine X_iloadn 1 d51 rfl ?_
  exact X_ireturn d52 rfl rfl

theorem dd12_oneOf_b26 : AllD (ib i12_oneOf) [(26, .istore_n 3, 1), (27, .iload_n 3, 1), (28, .ifCond .ge 19, 3), (31, .aload_n 0, 1), (32, .aload_n 0, 1), (33, .invokevirtual 200, 3), (36, .ifCond .eq 7, 3), (39, .iconst 3, 1), (40, .goto 4, 3), (43, .iconst 2, 1)] := allD_of (by decide +kernel)
def f12_oneOf_b26 (M : MM) (a0 : Nat) (s0 : Int32) : Option (Int32 × MM) :=
  if 0 ≤ s0 then
    f12_oneOf_b47 M a0 s0
  else
    aO M a0 12 <|
    cI (f12_isName M a0) fun r33 M33 =>
    if r33 = 0 then
      (f12_oneOf_b44 f12_oneOf_b47) M33 a0 s0 (2 : Int32) a0
    else
      (f12_oneOf_b44 f12_oneOf_b47) M33 a0 s0 (3 : Int32) a0
set_option maxRecDepth 4000 in
theorem T12_oneOf_b26 : ∀ (M : MM) (a0 : Nat) (s0 : Int32), X Li i12_oneOf 26 [(0, vr a0)] [vi s0] M (f12_oneOf_b26 M a0 s0) := by
  obtain ⟨d26, d27, d28, d31, d32, d33, d36, d39, d40, d43, -⟩ := dd12_oneOf_b26
  intro M a0 s0
  unfold f12_oneOf_b26
  refine X_istoren (lv' := [(3, vi s0), (0, vr a0)]) d26 (by decide) rfl ?_
  refine X_iloadn 0 d27 rfl ?_
  refine X_if_ge (t := 47) d28 rfl (fun h28 => ?_) (fun h28 => ?_)
  · refine X_sub [1, 0] rfl ?_
    exact T12_oneOf_b47 M a0 s0
  · refine X_aloadn 1 d31 rfl ?_
    refine X_aloadn 1 d32 rfl ?_
    refine X_cVi (as := []) d33 cv_x12_200 ⟨by decide, by decide⟩ rfl (Nat.le_of_ble_eq_true rfl) (T12_isName M a0) (fun r33 M33 _ => ?_)
    refine X_if_eq (t := 43) d36 rfl (fun h36 => ?_) (fun h36 => ?_)
    · refine X_iconst k_i_2 d43 ?_
      refine X_sub [1, 0] rfl ?_
      exact (T12_oneOf_b44 T12_oneOf_b47) M33 a0 s0 (2 : Int32) a0
    · refine X_iconst k_i_3 d39 ?_
      refine X_goto (t := 44) d40 rfl ?_
      refine X_sub [1, 0] rfl ?_
      exact (T12_oneOf_b44 T12_oneOf_b47) M33 a0 s0 (3 : Int32) a0

theorem dd12_oneOf : AllD (ib i12_oneOf) [(0, .aload_n 0, 1), (1, .invokevirtual 181, 3), (4, .ifCond .ne 5, 3), (7, .iconst 0, 1), (8, .ireturn, 1), (9, .aload_n 0, 1), (10, .invokevirtual 200, 3), (13, .ifCond .eq 12, 3), (16, .aload_n 0, 1), (17, .iload_n 1, 1), (18, .iload_n 2, 1), (19, .invokevirtual 203, 3), (22, .goto 4, 3), (25, .iconst (-1), 1)] := allD_of (by decide +kernel)
def f12_oneOf (M : MM) (a0 : Nat) (a1 : Int32) (a2 : Int32) : Option (Int32 × MM) :=
  aO M a0 12 <|
  cI (f12_isGood M a0) fun r1 M1 =>
  if r1 = 0 then
    some ((0 : Int32), M1)
  else
    aO M1 a0 12 <|
    cI (f12_isName M1 a0) fun r10 M10 =>
    if r10 = 0 then
      f12_oneOf_b26 M10 a0 (-1 : Int32)
    else
      aO M10 a0 12 <|
      cI (f12_called M10 a0 a1 a2) fun r19 M19 =>
      f12_oneOf_b26 M19 a0 r19
set_option maxRecDepth 4000 in
theorem T12_oneOf (M : MM) (a0 : Nat) (a1 : Int32) (a2 : Int32) : ∀ q, f12_oneOf M a0 a1 a2 = some q → Run i12_oneOf [vr a0, vi a1, vi a2] M (Li q) := by
  obtain ⟨d0, d1, d4, d7, d8, d9, d10, d13, d16, d17, d18, d19, d22, d25, -⟩ := dd12_oneOf
  refine Run_of_X (by decide) (Nat.le_of_ble_eq_true rfl) ?_
  show X Li i12_oneOf 0 [(0, vr a0), (1, vi a1), (2, vi a2)] [] M _
  unfold f12_oneOf
  refine X_aloadn 0 d0 rfl ?_
  refine X_cVi (as := []) d1 cv_x12_181 ⟨by decide, by decide⟩ rfl (Nat.le_of_ble_eq_true rfl) (T12_isGood M a0) (fun r1 M1 _ => ?_)
  refine X_if_ne (t := 9) d4 rfl (fun h4 => ?_) (fun h4 => ?_)
  · refine X_iconst k_i_0 d7 ?_
    exact X_ireturn d8 rfl rfl
  · refine X_aloadn 0 d9 rfl ?_
    refine X_cVi (as := []) d10 cv_x12_200 ⟨by decide, by decide⟩ rfl (Nat.le_of_ble_eq_true rfl) (T12_isName M1 a0) (fun r10 M10 _ => ?_)
    refine X_if_eq (t := 25) d13 rfl (fun h13 => ?_) (fun h13 => ?_)
    · refine X_iconst k_i_m1 d25 ?_
      refine X_sub [0] rfl ?_
      exact T12_oneOf_b26 M10 a0 (-1 : Int32)
    · refine X_aloadn 0 d16 rfl ?_
      refine X_iloadn 1 d17 rfl ?_
      refine X_iloadn 2 d18 rfl ?_
      refine X_cVi (as := [vi a1, vi a2]) d19 cv_x12_203 ⟨by decide, by decide⟩ rfl (Nat.le_of_ble_eq_true rfl) (T12_called M10 a0 a1 a2) (fun r19 M19 _ => ?_)
      refine X_goto (t := 26) d22 rfl ?_
      refine X_sub [0] rfl ?_
      exact T12_oneOf_b26 M19 a0 r19

theorem dd12_ends_b24 : AllD (ib i12_ends) [(24, .putfield 25, 3), (27, .aload_n 0, 1), (28, .invokevirtual 181, 3), (31, .ireturn, 1)] := allD_of (by decide +kernel)
def f12_ends_b24 (M : MM) (a0 : Nat) (s0 : Int32) (s1 : Nat) : Option (Int32 × MM) :=
  aO M s1 12 <|
  bM (sI M s1 14 s0) fun M24 =>
  aO M24 a0 12 <|
  cI (f12_isGood M24 a0) fun r28 M28 =>
  gd (r28 = 0 ∨ r28 = 1) <|
  some (r28, M28)
set_option maxRecDepth 4000 in
theorem T12_ends_b24 : ∀ (M : MM) (a0 : Nat) (s0 : Int32) (s1 : Nat), X Li i12_ends 24 [(0, vr a0)] [vi s0, vr s1] M (f12_ends_b24 M a0 s0 s1) := by
  obtain ⟨d24, d27, d28, d31, -⟩ := dd12_ends_b24
  intro M a0 s0 s1
  unfold f12_ends_b24
  refine X_putI d24 fp_x12_25 ?_
  refine X_bM fun M24 _ => ?_
  refine X_aloadn 0 d27 rfl ?_
  refine X_cVi (as := []) d28 cv_x12_181 ⟨by decide, by decide⟩ rfl (Nat.le_of_ble_eq_true rfl) (T12_isGood M24 a0) (fun r28 M28 _ => ?_)
  exact X_zreturn d31 rfl rfl

theorem dd12_ends : AllD (ib i12_ends) [(0, .aload_n 0, 1), (1, .aload_n 0, 1), (2, .getfield 175, 3), (5, .putfield 197, 3), (8, .aload_n 0, 1), (9, .aload_n 0, 1), (10, .invokevirtual 181, 3), (13, .ifCond .eq 7, 3), (16, .iconst (-1), 1), (17, .goto 7, 3), (20, .aload_n 0, 1), (21, .getfield 178, 3)] := allD_of (by decide +kernel)
def f12_ends (M : MM) (a0 : Nat) : Option (Int32 × MM) :=
  aO M a0 12 <|
  aO M a0 12 <|
  bM (sI M a0 13 (mI M a0 15)) fun M5 =>
  aO M5 a0 12 <|
  cI (f12_isGood M5 a0) fun r10 M10 =>
  if r10 = 0 then
    aO M10 a0 12 <|
    f12_ends_b24 M10 a0 (mI M10 a0 16) a0
  else
    f12_ends_b24 M10 a0 (-1 : Int32) a0
set_option maxRecDepth 4000 in
theorem T12_ends (M : MM) (a0 : Nat) : ∀ q, f12_ends M a0 = some q → Run i12_ends [vr a0] M (Li q) := by
  obtain ⟨d0, d1, d2, d5, d8, d9, d10, d13, d16, d17, d20, d21, -⟩ := dd12_ends
  refine Run_of_X (by decide) (Nat.le_of_ble_eq_true rfl) ?_
  show X Li i12_ends 0 [(0, vr a0)] [] M _
  unfold f12_ends
  refine X_aloadn 0 d0 rfl ?_
  refine X_aloadn 0 d1 rfl ?_
  refine X_getI d2 fg_x12_175 ?_
  refine X_putI d5 fp_x12_197 ?_
  refine X_bM fun M5 _ => ?_
  refine X_aloadn 0 d8 rfl ?_
  refine X_aloadn 0 d9 rfl ?_
  refine X_cVi (as := []) d10 cv_x12_181 ⟨by decide, by decide⟩ rfl (Nat.le_of_ble_eq_true rfl) (T12_isGood M5 a0) (fun r10 M10 _ => ?_)
  refine X_if_eq (t := 20) d13 rfl (fun h13 => ?_) (fun h13 => ?_)
  · refine X_aloadn 0 d20 rfl ?_
    refine X_getI d21 fg_x12_178 ?_
    exact T12_ends_b24 M10 a0 (mI M10 a0 16) a0
  · refine X_iconst k_i_m1 d16 ?_
    refine X_goto (t := 24) d17 rfl ?_
    exact T12_ends_b24 M10 a0 (-1 : Int32) a0

theorem dd12_keep_b12 : AllD (ib i12_keep) [(12, .iload_n 1, 1), (13, .sipush 528, 3), (16, .if_icmp .ge 24, 3), (19, .aload_n 0, 1), (20, .getfield 35, 3), (23, .iload_n 1, 1), (24, .bipush 44, 2), (26, .isub, 1), (27, .aload_n 0, 1), (28, .getfield 35, 3), (31, .iload_n 1, 1), (32, .iaload, 1), (33, .iastore, 1), (34, .iinc 1 1, 3), (37, .goto (-25), 3), (40, .aload_n 0, 1), (41, .dup, 1), (42, .getfield 240, 3), (45, .iconst 1, 1), (46, .isub, 1), (47, .putfield 240, 3)] := allD_of (by decide +kernel)
def f12_keep_b12_body (K50 : MM → Nat → Option MM) (rc : MM → Nat → Int32 → Option MM) (M : MM) (a0 : Nat) (a1 : Int32) : Option MM :=
  if (528 : Int32) ≤ a1 then
    aO M a0 12 <|
    aO M a0 12 <|
    bM (sI M a0 23 ((mI M a0 23) - (1 : Int32))) fun M47 =>
    K50 M47 a0
  else
    aO M a0 12 <|
    aO M a0 12 <|
    aA M (mR M a0 22) 0 a1 <|
    aA M (mR M a0 22) 0 (a1 - (44 : Int32)) <|
    bM (sI M (mR M a0 22) (a1 - (44 : Int32)).toNatClampNeg (mI M (mR M a0 22) a1.toNatClampNeg)) fun M33 =>
    rc M33 a0 (a1 + (1 : Int32))
def f12_keep_b12 (K50 : MM → Nat → Option MM) : MM → Nat → Int32 → Option MM := LP3 (f12_keep_b12_body K50) FU
set_option maxRecDepth 4000 in
theorem T12_keep_b12 {K50 : MM → Nat → Option MM} (hK50 : ∀ (M : MM) (a0 : Nat), X Lv i12_keep 50 [(0, vr a0)] [] M (K50 M a0)) : ∀ (M : MM) (a0 : Nat) (a1 : Int32), X Lv i12_keep 12 [(0, vr a0), (1, vi a1)] [] M (f12_keep_b12 K50 M a0 a1) := by
  obtain ⟨d12, d13, d16, d19, d20, d23, d24, d26, d27, d28, d31, d32, d33, d34, d37, d40, d41, d42, d45, d46, d47, -⟩ := dd12_keep_b12
  refine LP3_i (P := fun M a0 a1 o => X Lv i12_keep 12 [(0, vr a0), (1, vi a1)] [] M o) (fun _ _ _ => X_none) (fun rc ih M a0 a1 => ?_) FU
  unfold f12_keep_b12_body
  refine X_iloadn 1 d12 rfl ?_
  refine X_sipush k_s_528 d13 ?_
  refine X_icmp_ge (t := 40) d16 rfl (fun h16 => ?_) (fun h16 => ?_)
  · refine X_aloadn 0 d40 rfl ?_
    refine X_dupr d41 ?_
    refine X_getI d42 fg_x12_240 ?_
    refine X_iconst k_i_1 d45 ?_
    refine X_isub d46 ?_
    refine X_putI d47 fp_x12_240 ?_
    refine X_bM fun M47 _ => ?_
    refine X_sub [0] rfl ?_
    exact hK50 M47 a0
  · refine X_aloadn 0 d19 rfl ?_
    refine X_getR d20 fg_x12_35 ?_
    refine X_iloadn 1 d23 rfl ?_
    refine X_bipush k_b_44 d24 ?_
    refine X_isub d26 ?_
    refine X_aloadn 0 d27 rfl ?_
    refine X_getR d28 fg_x12_35 ?_
    refine X_iloadn 1 d31 rfl ?_
    refine X_iaload d32 ?_
    refine X_iastore d33 ?_
    refine X_bM fun M33 _ => ?_
    refine X_inc (lv' := [(1, vi (a1 + (1 : Int32))), (0, vr a0)]) 1 d34 k_i_1 rfl (by decide) rfl ?_
    refine X_goto (t := 12) d37 rfl ?_
    refine X_sub [1, 0] rfl ?_
    exact ih M33 a0 (a1 + (1 : Int32))

theorem dd12_keep_b114 : AllD (ib i12_keep) [(114, .iload_n 2, 1), (115, .bipush 40, 2), (117, .if_icmp .ge 25, 3), (120, .aload_n 0, 1), (121, .getfield 35, 3), (124, .iload_n 1, 1), (125, .iconst 4, 1), (126, .iadd, 1), (127, .iload_n 2, 1), (128, .iadd, 1), (129, .aload_n 0, 1), (130, .getfield 29, 3), (133, .iload_n 2, 1), (134, .iaload, 1), (135, .iastore, 1), (136, .iinc 2 1, 3), (139, .goto (-25), 3), (142, .aload_n 0, 1), (143, .dup, 1), (144, .getfield 240, 3), (147, .iconst 1, 1), (148, .iadd, 1), (149, .putfield 240, 3), (152, .return_, 1)] := allD_of (by decide +kernel)
def f12_keep_b114_body (rc : MM → Nat → Int32 → Int32 → Option MM) (M : MM) (a0 : Nat) (a1 : Int32) (a2 : Int32) : Option MM :=
  if (40 : Int32) ≤ a2 then
    aO M a0 12 <|
    aO M a0 12 <|
    bM (sI M a0 23 ((mI M a0 23) + (1 : Int32))) fun M149 =>
    some M149
  else
    aO M a0 12 <|
    aO M a0 12 <|
    aA M (mR M a0 17) 0 a2 <|
    aA M (mR M a0 22) 0 ((a1 + (4 : Int32)) + a2) <|
    bM (sI M (mR M a0 22) ((a1 + (4 : Int32)) + a2).toNatClampNeg (mI M (mR M a0 17) a2.toNatClampNeg)) fun M135 =>
    rc M135 a0 a1 (a2 + (1 : Int32))
def f12_keep_b114 : MM → Nat → Int32 → Int32 → Option MM := LP4 (f12_keep_b114_body) FU
set_option maxRecDepth 4000 in
theorem T12_keep_b114 : ∀ (M : MM) (a0 : Nat) (a1 : Int32) (a2 : Int32), X Lv i12_keep 114 [(0, vr a0), (1, vi a1), (2, vi a2)] [] M (f12_keep_b114 M a0 a1 a2) := by
  obtain ⟨d114, d115, d117, d120, d121, d124, d125, d126, d127, d128, d129, d130, d133, d134, d135, d136, d139, d142, d143, d144, d147, d148, d149, d152, -⟩ := dd12_keep_b114
  refine LP4_i (P := fun M a0 a1 a2 o => X Lv i12_keep 114 [(0, vr a0), (1, vi a1), (2, vi a2)] [] M o) (fun _ _ _ _ => X_none) (fun rc ih M a0 a1 a2 => ?_) FU
  unfold f12_keep_b114_body
  refine X_iloadn 2 d114 rfl ?_
  refine X_bipush k_b_40 d115 ?_
  refine X_icmp_ge (t := 142) d117 rfl (fun h117 => ?_) (fun h117 => ?_)
  · refine X_aloadn 0 d142 rfl ?_
    refine X_dupr d143 ?_
    refine X_getI d144 fg_x12_240 ?_
    refine X_iconst k_i_1 d147 ?_
    refine X_iadd d148 ?_
    refine X_putI d149 fp_x12_240 ?_
    refine X_bM fun M149 _ => ?_
    exact X_vreturn d152 rfl rfl
  · refine X_aloadn 0 d120 rfl ?_
    refine X_getR d121 fg_x12_35 ?_
    refine X_iloadn 1 d124 rfl ?_
    refine X_iconst k_i_4 d125 ?_
    refine X_iadd d126 ?_
    refine X_iloadn 2 d127 rfl ?_
    refine X_iadd d128 ?_
    refine X_aloadn 0 d129 rfl ?_
    refine X_getR d130 fg_x12_29 ?_
    refine X_iloadn 2 d133 rfl ?_
    refine X_iaload d134 ?_
    refine X_iastore d135 ?_
    refine X_bM fun M135 _ => ?_
    refine X_inc (lv' := [(2, vi (a2 + (1 : Int32))), (0, vr a0), (1, vi a1)]) 2 d136 k_i_1 rfl (by decide) rfl ?_
    refine X_goto (t := 114) d139 rfl ?_
    refine X_sub [1, 2, 0] rfl ?_
    exact ih M135 a0 a1 (a2 + (1 : Int32))

theorem dd12_keep_b75 : AllD (ib i12_keep) [(75, .iastore, 1), (76, .aload_n 0, 1), (77, .getfield 35, 3), (80, .iload_n 1, 1), (81, .iconst 1, 1), (82, .iadd, 1), (83, .aload_n 0, 1), (84, .getfield 252, 3), (87, .iastore, 1), (88, .aload_n 0, 1), (89, .getfield 35, 3), (92, .iload_n 1, 1), (93, .iconst 2, 1), (94, .iadd, 1), (95, .aload_n 0, 1), (96, .getfield 255, 3), (99, .iastore, 1), (100, .aload_n 0, 1), (101, .getfield 35, 3), (104, .iload_n 1, 1), (105, .iconst 3, 1), (106, .iadd, 1), (107, .aload_n 0, 1), (108, .getfield 131, 3), (111, .iastore, 1), (112, .iconst 0, 1), (113, .istore_n 2, 1)] := allD_of (by decide +kernel)
def f12_keep_b75 (M : MM) (a0 : Nat) (a1 : Int32) (s0 : Int32) (s1 : Int32) (s2 : Nat) : Option MM :=
  aA M s2 0 s1 <|
  bM (sI M s2 s1.toNatClampNeg s0) fun M75 =>
  aO M75 a0 12 <|
  aO M75 a0 12 <|
  aA M75 (mR M75 a0 22) 0 (a1 + (1 : Int32)) <|
  bM (sI M75 (mR M75 a0 22) (a1 + (1 : Int32)).toNatClampNeg (mI M75 a0 20)) fun M87 =>
  aO M87 a0 12 <|
  aO M87 a0 12 <|
  aA M87 (mR M87 a0 22) 0 (a1 + (2 : Int32)) <|
  bM (sI M87 (mR M87 a0 22) (a1 + (2 : Int32)).toNatClampNeg (mI M87 a0 21)) fun M99 =>
  aO M99 a0 12 <|
  aO M99 a0 12 <|
  aA M99 (mR M99 a0 22) 0 (a1 + (3 : Int32)) <|
  bM (sI M99 (mR M99 a0 22) (a1 + (3 : Int32)).toNatClampNeg (mI M99 a0 5)) fun M111 =>
  f12_keep_b114 M111 a0 a1 (0 : Int32)
set_option maxRecDepth 4000 in
theorem T12_keep_b75 : ∀ (M : MM) (a0 : Nat) (a1 : Int32) (s0 : Int32) (s1 : Int32) (s2 : Nat), X Lv i12_keep 75 [(0, vr a0), (1, vi a1)] [vi s0, vi s1, vr s2] M (f12_keep_b75 M a0 a1 s0 s1 s2) := by
  obtain ⟨d75, d76, d77, d80, d81, d82, d83, d84, d87, d88, d89, d92, d93, d94, d95, d96, d99, d100, d101, d104, d105, d106, d107, d108, d111, d112, d113, -⟩ := dd12_keep_b75
  intro M a0 a1 s0 s1 s2
  unfold f12_keep_b75
  refine X_iastore d75 ?_
  refine X_bM fun M75 _ => ?_
  refine X_aloadn 0 d76 rfl ?_
  refine X_getR d77 fg_x12_35 ?_
  refine X_iloadn 1 d80 rfl ?_
  refine X_iconst k_i_1 d81 ?_
  refine X_iadd d82 ?_
  refine X_aloadn 0 d83 rfl ?_
  refine X_getI d84 fg_x12_252 ?_
  refine X_iastore d87 ?_
  refine X_bM fun M87 _ => ?_
  refine X_aloadn 0 d88 rfl ?_
  refine X_getR d89 fg_x12_35 ?_
  refine X_iloadn 1 d92 rfl ?_
  refine X_iconst k_i_2 d93 ?_
  refine X_iadd d94 ?_
  refine X_aloadn 0 d95 rfl ?_
  refine X_getI d96 fg_x12_255 ?_
  refine X_iastore d99 ?_
  refine X_bM fun M99 _ => ?_
  refine X_aloadn 0 d100 rfl ?_
  refine X_getR d101 fg_x12_35 ?_
  refine X_iloadn 1 d104 rfl ?_
  refine X_iconst k_i_3 d105 ?_
  refine X_iadd d106 ?_
  refine X_aloadn 0 d107 rfl ?_
  refine X_getI d108 fg_x12_131 ?_
  refine X_iastore d111 ?_
  refine X_bM fun M111 _ => ?_
  refine X_iconst k_i_0 d112 ?_
  refine X_istoren (lv' := [(2, vi (0 : Int32)), (0, vr a0), (1, vi a1)]) d113 (by decide) rfl ?_
  refine X_sub [1, 2, 0] rfl ?_
  exact T12_keep_b114 M111 a0 a1 (0 : Int32)

theorem dd12_keep_b50 : AllD (ib i12_keep) [(50, .bipush 44, 2), (52, .aload_n 0, 1), (53, .getfield 240, 3), (56, .imul, 1), (57, .istore_n 1, 1), (58, .aload_n 0, 1), (59, .getfield 35, 3), (62, .iload_n 1, 1), (63, .aload_n 0, 1), (64, .getfield 236, 3), (67, .ifCond .eq 7, 3), (70, .iconst 1, 1), (71, .goto 4, 3), (74, .iconst 0, 1)] := allD_of (by decide +kernel)
def f12_keep_b50 (M : MM) (a0 : Nat) : Option MM :=
  aO M a0 12 <|
  bW ((44 : Int32) * (mI M a0 23)) fun v57 =>
  aO M a0 12 <|
  aO M a0 12 <|
  if (mI M a0 19) = 0 then
    f12_keep_b75 M a0 v57 (0 : Int32) v57 (mR M a0 22)
  else
    f12_keep_b75 M a0 v57 (1 : Int32) v57 (mR M a0 22)
set_option maxRecDepth 4000 in
theorem T12_keep_b50 : ∀ (M : MM) (a0 : Nat), X Lv i12_keep 50 [(0, vr a0)] [] M (f12_keep_b50 M a0) := by
  obtain ⟨d50, d52, d53, d56, d57, d58, d59, d62, d63, d64, d67, d70, d71, d74, -⟩ := dd12_keep_b50
  intro M a0
  unfold f12_keep_b50
  refine X_bipush k_b_44 d50 ?_
  refine X_aloadn 0 d52 rfl ?_
  refine X_getI d53 fg_x12_240 ?_
  refine X_imul d56 ?_
  refine X_bWi fun v57 _ => ?_
  refine X_istoren (lv' := [(1, vi v57), (0, vr a0)]) d57 (by decide) rfl ?_
  refine X_aloadn 1 d58 rfl ?_
  refine X_getR d59 fg_x12_35 ?_
  refine X_iloadn 0 d62 rfl ?_
  refine X_aloadn 1 d63 rfl ?_
  refine X_getI d64 fg_x12_236 ?_
  refine X_if_eq (t := 74) d67 rfl (fun h67 => ?_) (fun h67 => ?_)
  · refine X_iconst k_i_0 d74 ?_
    refine X_sub [1, 0] rfl ?_
    exact T12_keep_b75 M a0 v57 (0 : Int32) v57 (mR M a0 22)
  · refine X_iconst k_i_1 d70 ?_
    refine X_goto (t := 75) d71 rfl ?_
    refine X_sub [1, 0] rfl ?_
    exact T12_keep_b75 M a0 v57 (1 : Int32) v57 (mR M a0 22)

theorem dd12_keep : AllD (ib i12_keep) [(0, .aload_n 0, 1), (1, .getfield 240, 3), (4, .bipush 12, 2), (6, .if_icmp .ne 44, 3), (9, .bipush 44, 2), (11, .istore_n 1, 1)] := allD_of (by decide +kernel)
def f12_keep (M : MM) (a0 : Nat) : Option MM :=
  aO M a0 12 <|
  if (mI M a0 23) = (12 : Int32) then
    (f12_keep_b12 f12_keep_b50) M a0 (44 : Int32)
  else
    f12_keep_b50 M a0
set_option maxRecDepth 4000 in
theorem T12_keep (M : MM) (a0 : Nat) : ∀ q, f12_keep M a0 = some q → Run i12_keep [vr a0] M (Lv q) := by
  obtain ⟨d0, d1, d4, d6, d9, d11, -⟩ := dd12_keep
  refine Run_of_X (by decide) (Nat.le_of_ble_eq_true rfl) ?_
  show X Lv i12_keep 0 [(0, vr a0)] [] M _
  unfold f12_keep
  refine X_aloadn 0 d0 rfl ?_
  refine X_getI d1 fg_x12_240 ?_
  refine X_bipush k_b_12 d4 ?_
  refine X_icmp_ne (t := 50) d6 rfl (fun h6 => ?_) (fun h6 => ?_)
  · refine X_bipush k_b_44 d9 ?_
    refine X_istoren (lv' := [(1, vi (44 : Int32)), (0, vr a0)]) d11 (by decide) rfl ?_
    refine X_sub [1, 0] rfl ?_
    exact (T12_keep_b12 T12_keep_b50) M a0 (44 : Int32)
  · exact T12_keep_b50 M a0

theorem dd12_at_b74 : AllD (ib i12_at) [(74, .goto (-56), 3)] := allD_of (by decide +kernel)
def f12_at_b74 (K18 : MM → Nat → Int32 → Int32 → Option (Int32 × MM)) (M : MM) (a0 : Nat) (a1 : Int32) (a2 : Int32) : Option (Int32 × MM) :=
  K18 M a0 a1 a2
set_option maxRecDepth 4000 in
theorem T12_at_b74 {K18 : MM → Nat → Int32 → Int32 → Option (Int32 × MM)} (hK18 : ∀ (M : MM) (a0 : Nat) (a1 : Int32) (a2 : Int32), X Li i12_at 18 [(0, vr a0), (1, vi a1), (2, vi a2)] [] M (K18 M a0 a1 a2)) : ∀ (M : MM) (a0 : Nat) (a1 : Int32) (a2 : Int32), X Li i12_at 74 [(0, vr a0), (1, vi a1), (2, vi a2)] [] M (f12_at_b74 K18 M a0 a1 a2) := by
  obtain ⟨d74, -⟩ := dd12_at_b74
  intro M a0 a1 a2
  unfold f12_at_b74
  refine X_goto (t := 18) d74 rfl ?_
  exact hK18 M a0 a1 a2

theorem dd12_at_b50 : AllD (ib i12_at) [(50, .aload_n 0, 1), (51, .iconst 0, 1), (52, .iconst 1, 1), (53, .invokevirtual 212, 3), (56, .istore_n 3, 1), (57, .aload_n 0, 1), (58, .invokevirtual 181, 3), (61, .ifCond .eq 13, 3), (64, .aload_n 0, 1), (65, .getfield 32, 3), (68, .iload_n 2, 1), (69, .iload_n 3, 1), (70, .iastore, 1), (71, .iinc 2 1, 3)] := allD_of (by decide +kernel)
def f12_at_b50 (K18 : MM → Nat → Int32 → Int32 → Option (Int32 × MM)) (M : MM) (a0 : Nat) (a1 : Int32) (a2 : Int32) : Option (Int32 × MM) :=
  aO M a0 12 <|
  cI (f12_oneOf M a0 (0 : Int32) (1 : Int32)) fun r53 M53 =>
  aO M53 a0 12 <|
  cI (f12_isGood M53 a0) fun r58 M58 =>
  if r58 = 0 then
    (f12_at_b74 K18) M58 a0 a1 a2
  else
    aO M58 a0 12 <|
    aA M58 (mR M58 a0 18) 0 a2 <|
    bM (sI M58 (mR M58 a0 18) a2.toNatClampNeg r53) fun M70 =>
    (f12_at_b74 K18) M70 a0 a1 (a2 + (1 : Int32))
set_option maxRecDepth 4000 in
theorem T12_at_b50 {K18 : MM → Nat → Int32 → Int32 → Option (Int32 × MM)} (hK18 : ∀ (M : MM) (a0 : Nat) (a1 : Int32) (a2 : Int32), X Li i12_at 18 [(0, vr a0), (1, vi a1), (2, vi a2)] [] M (K18 M a0 a1 a2)) : ∀ (M : MM) (a0 : Nat) (a1 : Int32) (a2 : Int32), X Li i12_at 50 [(0, vr a0), (1, vi a1), (2, vi a2)] [] M (f12_at_b50 K18 M a0 a1 a2) := by
  obtain ⟨d50, d51, d52, d53, d56, d57, d58, d61, d64, d65, d68, d69, d70, d71, -⟩ := dd12_at_b50
  intro M a0 a1 a2
  unfold f12_at_b50
  refine X_aloadn 0 d50 rfl ?_
  refine X_iconst k_i_0 d51 ?_
  refine X_iconst k_i_1 d52 ?_
  refine X_cVi (as := [vi (0 : Int32), vi (1 : Int32)]) d53 cv_x12_212 ⟨by decide, by decide⟩ rfl (Nat.le_of_ble_eq_true rfl) (T12_oneOf M a0 (0 : Int32) (1 : Int32)) (fun r53 M53 _ => ?_)
  refine X_istoren (lv' := [(3, vi r53), (0, vr a0), (1, vi a1), (2, vi a2)]) d56 (by decide) rfl ?_
  refine X_aloadn 1 d57 rfl ?_
  refine X_cVi (as := []) d58 cv_x12_181 ⟨by decide, by decide⟩ rfl (Nat.le_of_ble_eq_true rfl) (T12_isGood M53 a0) (fun r58 M58 _ => ?_)
  refine X_if_eq (t := 74) d61 rfl (fun h61 => ?_) (fun h61 => ?_)
  · refine X_sub [1, 2, 3] rfl ?_
    exact (T12_at_b74 hK18) M58 a0 a1 a2
  · refine X_aloadn 1 d64 rfl ?_
    refine X_getR d65 fg_x12_32 ?_
    refine X_iloadn 3 d68 rfl ?_
    refine X_iloadn 0 d69 rfl ?_
    refine X_iastore d70 ?_
    refine X_bM fun M70 _ => ?_
    refine X_inc (lv' := [(2, vi (a2 + (1 : Int32))), (3, vi r53), (0, vr a0), (1, vi a1)]) 3 d71 k_i_1 rfl (by decide) rfl ?_
    refine X_sub [2, 3, 0] rfl ?_
    exact (T12_at_b74 hK18) M70 a0 a1 (a2 + (1 : Int32))

theorem dd12_at_b107 : AllD (ib i12_at) [(107, .iload_n 3, 1), (108, .iload_n 2, 1), (109, .if_icmp .ge 25, 3), (112, .aload_n 0, 1), (113, .getfield 29, 3), (116, .iload_n 2, 1), (117, .iconst 1, 1), (118, .isub, 1), (119, .iload_n 3, 1), (120, .isub, 1), (121, .aload_n 0, 1), (122, .getfield 32, 3), (125, .iload_n 3, 1), (126, .iaload, 1), (127, .iastore, 1), (128, .iinc 3 1, 3), (131, .goto (-24), 3), (134, .iload_n 2, 1), (135, .ireturn, 1)] := allD_of (by decide +kernel)
def f12_at_b107_body (rc : MM → Nat → Int32 → Int32 → Option (Int32 × MM)) (M : MM) (a0 : Nat) (a2 : Int32) (a3 : Int32) : Option (Int32 × MM) :=
  if a2 ≤ a3 then
    some (a2, M)
  else
    aO M a0 12 <|
    aO M a0 12 <|
    aA M (mR M a0 18) 0 a3 <|
    aA M (mR M a0 17) 0 ((a2 - (1 : Int32)) - a3) <|
    bM (sI M (mR M a0 17) ((a2 - (1 : Int32)) - a3).toNatClampNeg (mI M (mR M a0 18) a3.toNatClampNeg)) fun M127 =>
    rc M127 a0 a2 (a3 + (1 : Int32))
def f12_at_b107 : MM → Nat → Int32 → Int32 → Option (Int32 × MM) := LP4 (f12_at_b107_body) FU
set_option maxRecDepth 4000 in
theorem T12_at_b107 : ∀ (M : MM) (a0 : Nat) (a2 : Int32) (a3 : Int32), X Li i12_at 107 [(0, vr a0), (2, vi a2), (3, vi a3)] [] M (f12_at_b107 M a0 a2 a3) := by
  obtain ⟨d107, d108, d109, d112, d113, d116, d117, d118, d119, d120, d121, d122, d125, d126, d127, d128, d131, d134, d135, -⟩ := dd12_at_b107
  refine LP4_i (P := fun M a0 a2 a3 o => X Li i12_at 107 [(0, vr a0), (2, vi a2), (3, vi a3)] [] M o) (fun _ _ _ _ => X_none) (fun rc ih M a0 a2 a3 => ?_) FU
  unfold f12_at_b107_body
  refine X_iloadn 2 d107 rfl ?_
  refine X_iloadn 1 d108 rfl ?_
  refine X_icmp_ge (t := 134) d109 rfl (fun h109 => ?_) (fun h109 => ?_)
  · refine X_iloadn 1 d134 rfl ?_
    exact X_ireturn d135 rfl rfl
  · refine X_aloadn 0 d112 rfl ?_
    refine X_getR d113 fg_x12_29 ?_
    refine X_iloadn 1 d116 rfl ?_
    refine X_iconst k_i_1 d117 ?_
    refine X_isub d118 ?_
    refine X_iloadn 2 d119 rfl ?_
    refine X_isub d120 ?_
    refine X_aloadn 0 d121 rfl ?_
    refine X_getR d122 fg_x12_32 ?_
    refine X_iloadn 2 d125 rfl ?_
    refine X_iaload d126 ?_
    refine X_iastore d127 ?_
    refine X_bM fun M127 _ => ?_
    refine X_inc (lv' := [(3, vi (a3 + (1 : Int32))), (0, vr a0), (2, vi a2)]) 2 d128 k_i_1 rfl (by decide) rfl ?_
    refine X_goto (t := 107) d131 rfl ?_
    refine X_sub [1, 2, 0] rfl ?_
    exact ih M127 a0 a2 (a3 + (1 : Int32))

theorem dd12_at_b77 : AllD (ib i12_at) [(77, .aload_n 0, 1), (78, .invokevirtual 233, 3), (81, .ifCond .ne 5, 3), (84, .iconst (-1), 1), (85, .ireturn, 1), (86, .aload_n 0, 1), (87, .invokevirtual 261, 3), (90, .aload_n 0, 1), (91, .iconst 1, 1), (92, .putfield 236, 3), (95, .aload_n 0, 1), (96, .iload_n 1, 1), (97, .putfield 252, 3), (100, .aload_n 0, 1), (101, .iload_n 2, 1), (102, .putfield 255, 3), (105, .iconst 0, 1), (106, .istore_n 3, 1)] := allD_of (by decide +kernel)
def f12_at_b77 (M : MM) (a0 : Nat) (a1 : Int32) (a2 : Int32) : Option (Int32 × MM) :=
  aO M a0 12 <|
  cI (f12_ends M a0) fun r78 M78 =>
  if r78 = 0 then
    some ((-1 : Int32), M78)
  else
    aO M78 a0 12 <|
    cV (f12_keep M78 a0) fun M87 =>
    aO M87 a0 12 <|
    bM (sI M87 a0 19 (1 : Int32)) fun M92 =>
    aO M92 a0 12 <|
    bM (sI M92 a0 20 a1) fun M97 =>
    aO M97 a0 12 <|
    bM (sI M97 a0 21 a2) fun M102 =>
    f12_at_b107 M102 a0 a2 (0 : Int32)
set_option maxRecDepth 4000 in
theorem T12_at_b77 : ∀ (M : MM) (a0 : Nat) (a1 : Int32) (a2 : Int32), X Li i12_at 77 [(0, vr a0), (1, vi a1), (2, vi a2)] [] M (f12_at_b77 M a0 a1 a2) := by
  obtain ⟨d77, d78, d81, d84, d85, d86, d87, d90, d91, d92, d95, d96, d97, d100, d101, d102, d105, d106, -⟩ := dd12_at_b77
  intro M a0 a1 a2
  unfold f12_at_b77
  refine X_aloadn 0 d77 rfl ?_
  refine X_cVi (as := []) d78 cv_x12_233 ⟨by decide, by decide⟩ rfl (Nat.le_of_ble_eq_true rfl) (T12_ends M a0) (fun r78 M78 _ => ?_)
  refine X_if_ne (t := 86) d81 rfl (fun h81 => ?_) (fun h81 => ?_)
  · refine X_iconst k_i_m1 d84 ?_
    exact X_ireturn d85 rfl rfl
  · refine X_aloadn 0 d86 rfl ?_
    refine X_cVv (as := []) d87 cv_x12_261 ⟨by decide, by decide⟩ rfl (Nat.le_of_ble_eq_true rfl) (T12_keep M78 a0) (fun M87 _ => ?_)
    refine X_aloadn 0 d90 rfl ?_
    refine X_iconst k_i_1 d91 ?_
    refine X_putZc d92 fp_x12_236 (by decide) ?_
    refine X_bM fun M92 _ => ?_
    refine X_aloadn 0 d95 rfl ?_
    refine X_iloadn 1 d96 rfl ?_
    refine X_putI d97 fp_x12_252 ?_
    refine X_bM fun M97 _ => ?_
    refine X_aloadn 0 d100 rfl ?_
    refine X_iloadn 2 d101 rfl ?_
    refine X_putI d102 fp_x12_255 ?_
    refine X_bM fun M102 _ => ?_
    refine X_iconst k_i_0 d105 ?_
    refine X_istoren (lv' := [(3, vi (0 : Int32)), (0, vr a0), (1, vi a1), (2, vi a2)]) d106 (by decide) rfl ?_
    refine X_sub [1, 3, 0] rfl ?_
    exact T12_at_b107 M102 a0 a2 (0 : Int32)

theorem dd12_at_b18 : AllD (ib i12_at) [(18, .aload_n 0, 1), (19, .invokevirtual 181, 3), (22, .ifCond .eq 55, 3), (25, .aload_n 0, 1), (26, .getfield 165, 3), (29, .ifCond .eq 48, 3), (32, .aload_n 0, 1), (33, .invokevirtual 200, 3), (36, .ifCond .eq 14, 3), (39, .iload_n 2, 1), (40, .bipush 40, 2), (42, .if_icmp .ne 8, 3), (45, .aload_n 0, 1), (46, .iconst 2, 1), (47, .invokevirtual 206, 3)] := allD_of (by decide +kernel)
def f12_at_b18_body (rc : MM → Nat → Int32 → Int32 → Option (Int32 × MM)) (M : MM) (a0 : Nat) (a1 : Int32) (a2 : Int32) : Option (Int32 × MM) :=
  aO M a0 12 <|
  cI (f12_isGood M a0) fun r19 M19 =>
  if r19 = 0 then
    f12_at_b77 M19 a0 a1 a2
  else
    aO M19 a0 12 <|
    if (mI M19 a0 11) = 0 then
      f12_at_b77 M19 a0 a1 a2
    else
      aO M19 a0 12 <|
      cI (f12_isName M19 a0) fun r33 M33 =>
      if r33 = 0 then
        (f12_at_b50 rc) M33 a0 a1 a2
      else
        if a2 = (40 : Int32) then
          aO M33 a0 12 <|
          cV (f12_fails M33 a0 (2 : Int32)) fun M47 =>
          (f12_at_b50 rc) M47 a0 a1 a2
        else
          (f12_at_b50 rc) M33 a0 a1 a2
def f12_at_b18 : MM → Nat → Int32 → Int32 → Option (Int32 × MM) := LP4 (f12_at_b18_body) FU
set_option maxRecDepth 4000 in
theorem T12_at_b18 : ∀ (M : MM) (a0 : Nat) (a1 : Int32) (a2 : Int32), X Li i12_at 18 [(0, vr a0), (1, vi a1), (2, vi a2)] [] M (f12_at_b18 M a0 a1 a2) := by
  obtain ⟨d18, d19, d22, d25, d26, d29, d32, d33, d36, d39, d40, d42, d45, d46, d47, -⟩ := dd12_at_b18
  refine LP4_i (P := fun M a0 a1 a2 o => X Li i12_at 18 [(0, vr a0), (1, vi a1), (2, vi a2)] [] M o) (fun _ _ _ _ => X_none) (fun rc ih M a0 a1 a2 => ?_) FU
  unfold f12_at_b18_body
  refine X_aloadn 0 d18 rfl ?_
  refine X_cVi (as := []) d19 cv_x12_181 ⟨by decide, by decide⟩ rfl (Nat.le_of_ble_eq_true rfl) (T12_isGood M a0) (fun r19 M19 _ => ?_)
  refine X_if_eq (t := 77) d22 rfl (fun h22 => ?_) (fun h22 => ?_)
  · exact T12_at_b77 M19 a0 a1 a2
  · refine X_aloadn 0 d25 rfl ?_
    refine X_getI d26 fg_x12_165 ?_
    refine X_if_eq (t := 77) d29 rfl (fun h29 => ?_) (fun h29 => ?_)
    · exact T12_at_b77 M19 a0 a1 a2
    · refine X_aloadn 0 d32 rfl ?_
      refine X_cVi (as := []) d33 cv_x12_200 ⟨by decide, by decide⟩ rfl (Nat.le_of_ble_eq_true rfl) (T12_isName M19 a0) (fun r33 M33 _ => ?_)
      refine X_if_eq (t := 50) d36 rfl (fun h36 => ?_) (fun h36 => ?_)
      · exact (T12_at_b50 ih) M33 a0 a1 a2
      · refine X_iloadn 2 d39 rfl ?_
        refine X_bipush k_b_40 d40 ?_
        refine X_icmp_ne (t := 50) d42 rfl (fun h42 => ?_) (fun h42 => ?_)
        · refine X_aloadn 0 d45 rfl ?_
          refine X_iconst k_i_2 d46 ?_
          refine X_cVv (as := [vi (2 : Int32)]) d47 cv_x12_206 ⟨by decide, by decide⟩ rfl (Nat.le_of_ble_eq_true rfl) (T12_fails M33 a0 (2 : Int32)) (fun M47 _ => ?_)
          exact (T12_at_b50 ih) M47 a0 a1 a2
        · exact (T12_at_b50 ih) M33 a0 a1 a2

theorem dd12_at : AllD (ib i12_at) [(0, .aload_n 0, 1), (1, .iconst 0, 1), (2, .putfield 113, 3), (5, .aload_n 0, 1), (6, .invokevirtual 227, 3), (9, .aload_n 0, 1), (10, .iconst 0, 1), (11, .iconst 0, 1), (12, .invokevirtual 212, 3), (15, .istore_n 1, 1), (16, .iconst 0, 1), (17, .istore_n 2, 1)] := allD_of (by decide +kernel)
def f12_at (M : MM) (a0 : Nat) : Option (Int32 × MM) :=
  aO M a0 12 <|
  bM (sI M a0 0 (0 : Int32)) fun M2 =>
  aO M2 a0 12 <|
  cV (f12_begins M2 a0) fun M6 =>
  aO M6 a0 12 <|
  cI (f12_oneOf M6 a0 (0 : Int32) (0 : Int32)) fun r12 M12 =>
  f12_at_b18 M12 a0 r12 (0 : Int32)
set_option maxRecDepth 4000 in
theorem T12_at (M : MM) (a0 : Nat) : ∀ q, f12_at M a0 = some q → Run i12_at [vr a0] M (Li q) := by
  obtain ⟨d0, d1, d2, d5, d6, d9, d10, d11, d12, d15, d16, d17, -⟩ := dd12_at
  refine Run_of_X (by decide) (Nat.le_of_ble_eq_true rfl) ?_
  show X Li i12_at 0 [(0, vr a0)] [] M _
  unfold f12_at
  refine X_aloadn 0 d0 rfl ?_
  refine X_iconst k_i_0 d1 ?_
  refine X_putI d2 fp_x12_113 ?_
  refine X_bM fun M2 _ => ?_
  refine X_aloadn 0 d5 rfl ?_
  refine X_cVv (as := []) d6 cv_x12_227 ⟨by decide, by decide⟩ rfl (Nat.le_of_ble_eq_true rfl) (T12_begins M2 a0) (fun M6 _ => ?_)
  refine X_aloadn 0 d9 rfl ?_
  refine X_iconst k_i_0 d10 ?_
  refine X_iconst k_i_0 d11 ?_
  refine X_cVi (as := [vi (0 : Int32), vi (0 : Int32)]) d12 cv_x12_212 ⟨by decide, by decide⟩ rfl (Nat.le_of_ble_eq_true rfl) (T12_oneOf M6 a0 (0 : Int32) (0 : Int32)) (fun r12 M12 _ => ?_)
  refine X_istoren (lv' := [(1, vi r12), (0, vr a0)]) d15 (by decide) rfl ?_
  refine X_iconst k_i_0 d16 ?_
  refine X_istoren (lv' := [(2, vi (0 : Int32)), (1, vi r12), (0, vr a0)]) d17 (by decide) rfl ?_
  refine X_sub [2, 1, 0] rfl ?_
  exact T12_at_b18 M12 a0 r12 (0 : Int32)

theorem dd12_behindRule_b135 : AllD (ib i12_behindRule) [(135, .lstore 5, 2), (137, .iinc 7 1, 3), (140, .goto (-73), 3)] := allD_of (by decide +kernel)
def f12_behindRule_b135 (K67 : MM → Nat → Int32 → Int32 → Int32 → Int64 → Int32 → Option (Int64 × MM)) (M : MM) (a0 : Nat) (a1 : Int32) (a2 : Int32) (a4 : Int32) (a7 : Int32) (s0 : Int64) : Option (Int64 × MM) :=
  K67 M a0 a1 a2 a4 s0 (a7 + (1 : Int32))
set_option maxRecDepth 4000 in
theorem T12_behindRule_b135 {K67 : MM → Nat → Int32 → Int32 → Int32 → Int64 → Int32 → Option (Int64 × MM)} (hK67 : ∀ (M : MM) (a0 : Nat) (a1 : Int32) (a2 : Int32) (a4 : Int32) (a5 : Int64) (a7 : Int32), X Ll i12_behindRule 67 [(0, vr a0), (1, vi a1), (2, vi a2), (4, vi a4), (5, vl a5), (7, vi a7)] [] M (K67 M a0 a1 a2 a4 a5 a7)) : ∀ (M : MM) (a0 : Nat) (a1 : Int32) (a2 : Int32) (a4 : Int32) (a7 : Int32) (s0 : Int64), X Ll i12_behindRule 135 [(0, vr a0), (1, vi a1), (2, vi a2), (4, vi a4), (7, vi a7)] [vl s0] M (f12_behindRule_b135 K67 M a0 a1 a2 a4 a7 s0) := by
  obtain ⟨d135, d137, d140, -⟩ := dd12_behindRule_b135
  intro M a0 a1 a2 a4 a7 s0
  unfold f12_behindRule_b135
  refine X_lstore (lv' := [(5, vl s0), (0, vr a0), (1, vi a1), (2, vi a2), (4, vi a4), (7, vi a7)]) d135 (by decide) rfl ?_
  refine X_inc (lv' := [(7, vi (a7 + (1 : Int32))), (5, vl s0), (0, vr a0), (1, vi a1), (2, vi a2), (4, vi a4)]) 5 d137 k_i_1 rfl (by decide) rfl ?_
  refine X_goto (t := 67) d140 rfl ?_
  refine X_sub [2, 3, 4, 5, 1, 0] rfl ?_
  exact hK67 M a0 a1 a2 a4 s0 (a7 + (1 : Int32))

theorem dd12_behindRule_b67 : AllD (ib i12_behindRule) [(67, .iload 7, 2), (69, .bipush 21, 2), (71, .if_icmp .ge 72, 3), (74, .aload_n 0, 1), (75, .aload_n 0, 1), (76, .getfield 50, 3), (79, .iload 4, 2), (81, .aload_n 0, 1), (82, .iload_n 1, 1), (83, .iconst 4, 1), (84, .invokevirtual 138, 3), (87, .iload 7, 2), (89, .invokevirtual 299, 3), (92, .lstore 8, 2), (94, .lload 8, 2), (96, .lconst 0, 1), (97, .lcmp, 1), (98, .ifCond .ge 8, 3), (101, .lload 5, 2), (103, .goto 32, 3), (106, .lload 5, 2), (108, .lload 8, 2), (110, .aload_n 0, 1), (111, .aload_n 0, 1), (112, .getfield 50, 3), (115, .iload 7, 2), (117, .aload_n 0, 1), (118, .iload_n 1, 1), (119, .iconst 5, 1), (120, .invokevirtual 138, 3), (123, .iload_n 2, 1), (124, .iconst 1, 1), (125, .isub, 1), (126, .invokevirtual 319, 3), (129, .invokestatic 292, 3), (132, .invokestatic 296, 3), (143, .lload 5, 2), (145, .lreturn, 1)] := allD_of (by decide +kernel)
def f12_behindRule_b67_body (rc : MM → Nat → Int32 → Int32 → Int32 → Int64 → Int32 → Option (Int64 × MM)) (M : MM) (a0 : Nat) (a1 : Int32) (a2 : Int32) (a4 : Int32) (a5 : Int64) (a7 : Int32) : Option (Int64 × MM) :=
  if (21 : Int32) ≤ a7 then
    some (a5, M)
  else
    aO M a0 12 <|
    aO M a0 12 <|
    cI (f12_ruleOf M a0 a1 (4 : Int32)) fun r84 M84 =>
    aO M84 a0 12 <|
    cJ (f12_costOf M84 a0 (mR M a0 28) a4 r84 a7) fun r89 M89 =>
    if (0 : Int64) ≤ r89 then
      aO M89 a0 12 <|
      aO M89 a0 12 <|
      cI (f12_ruleOf M89 a0 a1 (5 : Int32)) fun r120 M120 =>
      aO M120 a0 12 <|
      cJ (f12_aboveBy M120 a0 (mR M89 a0 28) a7 r120 (a2 - (1 : Int32))) fun r126 M126 =>
      cJ (f12_sum M126 r89 r126) fun r129 M129 =>
      cJ (f12_lesser M129 a5 r129) fun r132 M132 =>
      (f12_behindRule_b135 rc) M132 a0 a1 a2 a4 a7 r132
    else
      (f12_behindRule_b135 rc) M89 a0 a1 a2 a4 a7 a5
def f12_behindRule_b67 : MM → Nat → Int32 → Int32 → Int32 → Int64 → Int32 → Option (Int64 × MM) := LP7 (f12_behindRule_b67_body) FU
set_option maxRecDepth 4000 in
theorem T12_behindRule_b67 : ∀ (M : MM) (a0 : Nat) (a1 : Int32) (a2 : Int32) (a4 : Int32) (a5 : Int64) (a7 : Int32), X Ll i12_behindRule 67 [(0, vr a0), (1, vi a1), (2, vi a2), (4, vi a4), (5, vl a5), (7, vi a7)] [] M (f12_behindRule_b67 M a0 a1 a2 a4 a5 a7) := by
  obtain ⟨d67, d69, d71, d74, d75, d76, d79, d81, d82, d83, d84, d87, d89, d92, d94, d96, d97, d98, d101, d103, d106, d108, d110, d111, d112, d115, d117, d118, d119, d120, d123, d124, d125, d126, d129, d132, d143, d145, -⟩ := dd12_behindRule_b67
  refine LP7_i (P := fun M a0 a1 a2 a4 a5 a7 o => X Ll i12_behindRule 67 [(0, vr a0), (1, vi a1), (2, vi a2), (4, vi a4), (5, vl a5), (7, vi a7)] [] M o) (fun _ _ _ _ _ _ _ => X_none) (fun rc ih M a0 a1 a2 a4 a5 a7 => ?_) FU
  unfold f12_behindRule_b67_body
  refine X_iload 5 d67 rfl ?_
  refine X_bipush k_b_21 d69 ?_
  refine X_icmp_ge (t := 143) d71 rfl (fun h71 => ?_) (fun h71 => ?_)
  · refine X_lload 4 d143 rfl ?_
    exact X_lreturn d145 rfl rfl
  · refine X_aloadn 0 d74 rfl ?_
    refine X_aloadn 0 d75 rfl ?_
    refine X_getR d76 fg_x12_50 ?_
    refine X_iload 3 d79 rfl ?_
    refine X_aloadn 0 d81 rfl ?_
    refine X_iloadn 1 d82 rfl ?_
    refine X_iconst k_i_4 d83 ?_
    refine X_cVi (as := [vi a1, vi (4 : Int32)]) d84 cv_x12_138 ⟨by decide, by decide⟩ rfl (Nat.le_of_ble_eq_true rfl) (T12_ruleOf M a0 a1 (4 : Int32)) (fun r84 M84 _ => ?_)
    refine X_iload 5 d87 rfl ?_
    refine X_cVl (as := [vr (mR M a0 28), vi a4, vi r84, vi a7]) d89 cv_x12_299 ⟨by decide, by decide⟩ rfl (Nat.le_of_ble_eq_true rfl) (T12_costOf M84 a0 (mR M a0 28) a4 r84 a7) (fun r89 M89 _ => ?_)
    refine X_lstore (lv' := [(8, vl r89), (0, vr a0), (1, vi a1), (2, vi a2), (4, vi a4), (5, vl a5), (7, vi a7)]) d92 (by decide) rfl ?_
    refine X_lload 0 d94 rfl ?_
    refine X_lconst k_l_0 d96 ?_
    refine X_lif_ge (t := 106) d97 d98 rfl (fun h97 => ?_) (fun h97 => ?_)
    · refine X_lload 5 d106 rfl ?_
      refine X_lload 0 d108 rfl ?_
      refine X_aloadn 1 d110 rfl ?_
      refine X_aloadn 1 d111 rfl ?_
      refine X_getR d112 fg_x12_50 ?_
      refine X_iload 6 d115 rfl ?_
      refine X_aloadn 1 d117 rfl ?_
      refine X_iloadn 2 d118 rfl ?_
      refine X_iconst k_i_5 d119 ?_
      refine X_cVi (as := [vi a1, vi (5 : Int32)]) d120 cv_x12_138 ⟨by decide, by decide⟩ rfl (Nat.le_of_ble_eq_true rfl) (T12_ruleOf M89 a0 a1 (5 : Int32)) (fun r120 M120 _ => ?_)
      refine X_iloadn 3 d123 rfl ?_
      refine X_iconst k_i_1 d124 ?_
      refine X_isub d125 ?_
      refine X_cVl (as := [vr (mR M89 a0 28), vi a7, vi r120, vi (a2 - (1 : Int32))]) d126 cv_x12_319 ⟨by decide, by decide⟩ rfl (Nat.le_of_ble_eq_true rfl) (T12_aboveBy M120 a0 (mR M89 a0 28) a7 r120 (a2 - (1 : Int32))) (fun r126 M126 _ => ?_)
      refine X_cSl (as := [vl r89, vl r126]) d129 cs_x12_292 ⟨by decide, by decide⟩ rfl (Nat.le_of_ble_eq_true rfl) (T12_sum M126 r89 r126) (fun r129 M129 _ => ?_)
      refine X_cSl (as := [vl a5, vl r129]) d132 cs_x12_296 ⟨by decide, by decide⟩ rfl (Nat.le_of_ble_eq_true rfl) (T12_lesser M129 a5 r129) (fun r132 M132 _ => ?_)
      refine X_sub [1, 2, 3, 4, 6] rfl ?_
      exact (T12_behindRule_b135 ih) M132 a0 a1 a2 a4 a7 r132
    · refine X_lload 5 d101 rfl ?_
      refine X_goto (t := 135) d103 rfl ?_
      refine X_sub [1, 2, 3, 4, 6] rfl ?_
      exact (T12_behindRule_b135 ih) M89 a0 a1 a2 a4 a7 a5

theorem dd12_behindRule : AllD (ib i12_behindRule) [(0, .aload_n 0, 1), (1, .iload_n 1, 1), (2, .iconst 3, 1), (3, .invokevirtual 138, 3), (6, .istore_n 3, 1), (7, .aload_n 0, 1), (8, .iload_n 1, 1), (9, .iconst 2, 1), (10, .invokevirtual 138, 3), (13, .istore 4, 2), (15, .iload_n 3, 1), (16, .ifCond .ne 18, 3), (19, .aload_n 0, 1), (20, .getfield 57, 3), (23, .bipush 21, 2), (25, .iload_n 2, 1), (26, .iconst 1, 1), (27, .isub, 1), (28, .imul, 1), (29, .iload 4, 2), (31, .iadd, 1), (32, .laload, 1), (33, .lreturn, 1), (34, .iload_n 3, 1), (35, .iconst 1, 1), (36, .if_icmp .ne 23, 3), (39, .aload_n 0, 1), (40, .aload_n 0, 1), (41, .getfield 50, 3), (44, .iload 4, 2), (46, .aload_n 0, 1), (47, .iload_n 1, 1), (48, .iconst 4, 1), (49, .invokevirtual 138, 3), (52, .iload_n 2, 1), (53, .iconst 1, 1), (54, .isub, 1), (55, .invokevirtual 319, 3), (58, .lreturn, 1), (59, .ldc2_w 116, 3), (62, .lstore 5, 2), (64, .iconst 0, 1), (65, .istore 7, 2)] := allD_of (by decide +kernel)
def f12_behindRule (M : MM) (a0 : Nat) (a1 : Int32) (a2 : Int32) : Option (Int64 × MM) :=
  aO M a0 12 <|
  cI (f12_ruleOf M a0 a1 (3 : Int32)) fun r3 M3 =>
  aO M3 a0 12 <|
  cI (f12_ruleOf M3 a0 a1 (2 : Int32)) fun r10 M10 =>
  if r3 = 0 then
    aO M10 a0 12 <|
    aA M10 (mR M10 a0 32) 1 (((21 : Int32) * (a2 - (1 : Int32))) + r10) <|
    some (mJ M10 (mR M10 a0 32) (((21 : Int32) * (a2 - (1 : Int32))) + r10).toNatClampNeg, M10)
  else
    if r3 = (1 : Int32) then
      aO M10 a0 12 <|
      aO M10 a0 12 <|
      cI (f12_ruleOf M10 a0 a1 (4 : Int32)) fun r49 M49 =>
      aO M49 a0 12 <|
      cJ (f12_aboveBy M49 a0 (mR M10 a0 28) r10 r49 (a2 - (1 : Int32))) fun r55 M55 =>
      some (r55, M55)
    else
      f12_behindRule_b67 M10 a0 a1 a2 r10 (-1 : Int64) (0 : Int32)
set_option maxRecDepth 4000 in
theorem T12_behindRule (M : MM) (a0 : Nat) (a1 : Int32) (a2 : Int32) : ∀ q, f12_behindRule M a0 a1 a2 = some q → Run i12_behindRule [vr a0, vi a1, vi a2] M (Ll q) := by
  obtain ⟨d0, d1, d2, d3, d6, d7, d8, d9, d10, d13, d15, d16, d19, d20, d23, d25, d26, d27, d28, d29, d31, d32, d33, d34, d35, d36, d39, d40, d41, d44, d46, d47, d48, d49, d52, d53, d54, d55, d58, d59, d62, d64, d65, -⟩ := dd12_behindRule
  refine Run_of_X (by decide) (Nat.le_of_ble_eq_true rfl) ?_
  show X Ll i12_behindRule 0 [(0, vr a0), (1, vi a1), (2, vi a2)] [] M _
  unfold f12_behindRule
  refine X_aloadn 0 d0 rfl ?_
  refine X_iloadn 1 d1 rfl ?_
  refine X_iconst k_i_3 d2 ?_
  refine X_cVi (as := [vi a1, vi (3 : Int32)]) d3 cv_x12_138 ⟨by decide, by decide⟩ rfl (Nat.le_of_ble_eq_true rfl) (T12_ruleOf M a0 a1 (3 : Int32)) (fun r3 M3 _ => ?_)
  refine X_istoren (lv' := [(3, vi r3), (0, vr a0), (1, vi a1), (2, vi a2)]) d6 (by decide) rfl ?_
  refine X_aloadn 1 d7 rfl ?_
  refine X_iloadn 2 d8 rfl ?_
  refine X_iconst k_i_2 d9 ?_
  refine X_cVi (as := [vi a1, vi (2 : Int32)]) d10 cv_x12_138 ⟨by decide, by decide⟩ rfl (Nat.le_of_ble_eq_true rfl) (T12_ruleOf M3 a0 a1 (2 : Int32)) (fun r10 M10 _ => ?_)
  refine X_istore (lv' := [(4, vi r10), (3, vi r3), (0, vr a0), (1, vi a1), (2, vi a2)]) d13 (by decide) rfl ?_
  refine X_iloadn 1 d15 rfl ?_
  refine X_if_ne (t := 34) d16 rfl (fun h16 => ?_) (fun h16 => ?_)
  · refine X_aloadn 2 d19 rfl ?_
    refine X_getR d20 fg_x12_57 ?_
    refine X_bipush k_b_21 d23 ?_
    refine X_iloadn 4 d25 rfl ?_
    refine X_iconst k_i_1 d26 ?_
    refine X_isub d27 ?_
    refine X_imul d28 ?_
    refine X_iload 0 d29 rfl ?_
    refine X_iadd d31 ?_
    refine X_laload d32 ?_
    exact X_lreturn d33 rfl rfl
  · refine X_iloadn 1 d34 rfl ?_
    refine X_iconst k_i_1 d35 ?_
    refine X_icmp_ne (t := 59) d36 rfl (fun h36 => ?_) (fun h36 => ?_)
    · refine X_aloadn 2 d39 rfl ?_
      refine X_aloadn 2 d40 rfl ?_
      refine X_getR d41 fg_x12_50 ?_
      refine X_iload 0 d44 rfl ?_
      refine X_aloadn 2 d46 rfl ?_
      refine X_iloadn 3 d47 rfl ?_
      refine X_iconst k_i_4 d48 ?_
      refine X_cVi (as := [vi a1, vi (4 : Int32)]) d49 cv_x12_138 ⟨by decide, by decide⟩ rfl (Nat.le_of_ble_eq_true rfl) (T12_ruleOf M10 a0 a1 (4 : Int32)) (fun r49 M49 _ => ?_)
      refine X_iloadn 4 d52 rfl ?_
      refine X_iconst k_i_1 d53 ?_
      refine X_isub d54 ?_
      refine X_cVl (as := [vr (mR M10 a0 28), vi r10, vi r49, vi (a2 - (1 : Int32))]) d55 cv_x12_319 ⟨by decide, by decide⟩ rfl (Nat.le_of_ble_eq_true rfl) (T12_aboveBy M49 a0 (mR M10 a0 28) r10 r49 (a2 - (1 : Int32))) (fun r55 M55 _ => ?_)
      exact X_lreturn d58 rfl rfl
    · refine X_ldc2 kc_x12_116 d59 ?_
      refine X_lstore (lv' := [(5, vl (-1 : Int64)), (4, vi r10), (3, vi r3), (0, vr a0), (1, vi a1), (2, vi a2)]) d62 (by decide) rfl ?_
      refine X_iconst k_i_0 d64 ?_
      refine X_istore (lv' := [(7, vi (0 : Int32)), (5, vl (-1 : Int64)), (4, vi r10), (3, vi r3), (0, vr a0), (1, vi a1), (2, vi a2)]) d65 (by decide) rfl ?_
      refine X_sub [4, 5, 6, 2, 1, 0] rfl ?_
      exact T12_behindRule_b67 M10 a0 a1 a2 r10 (-1 : Int64) (0 : Int32)

theorem dd12_onBy : AllD (ib i12_onBy) [(0, .iload_n 2, 1), (1, .iconst 5, 1), (2, .if_icmp .ge 13, 3), (5, .aload_n 0, 1), (6, .aload_n 1, 1), (7, .iload_n 2, 1), (8, .iload_n 3, 1), (9, .iload 4, 2), (11, .invokevirtual 299, 3), (14, .lreturn, 1), (15, .aload_n 0, 1), (16, .iload_n 2, 1), (17, .iload_n 3, 1), (18, .invokevirtual 306, 3), (21, .iload 4, 2), (23, .if_icmp .ne 7, 3), (26, .lconst 0, 1), (27, .goto 6, 3), (30, .ldc2_w 116, 3), (33, .lreturn, 1)] := allD_of (by decide +kernel)
def f12_onBy (M : MM) (a0 : Nat) (a1 : Nat) (a2 : Int32) (a3 : Int32) (a4 : Int32) : Option (Int64 × MM) :=
  if (5 : Int32) ≤ a2 then
    aO M a0 12 <|
    cI (f12_goesTo M a0 a2 a3) fun r18 M18 =>
    if r18 = a4 then
      some ((0 : Int64), M18)
    else
      some ((-1 : Int64), M18)
  else
    aO M a0 12 <|
    cJ (f12_costOf M a0 a1 a2 a3 a4) fun r11 M11 =>
    some (r11, M11)
set_option maxRecDepth 4000 in
theorem T12_onBy (M : MM) (a0 : Nat) (a1 : Nat) (a2 : Int32) (a3 : Int32) (a4 : Int32) : ∀ q, f12_onBy M a0 a1 a2 a3 a4 = some q → Run i12_onBy [vr a0, vr a1, vi a2, vi a3, vi a4] M (Ll q) := by
  obtain ⟨d0, d1, d2, d5, d6, d7, d8, d9, d11, d14, d15, d16, d17, d18, d21, d23, d26, d27, d30, d33, -⟩ := dd12_onBy
  refine Run_of_X (by decide) (Nat.le_of_ble_eq_true rfl) ?_
  show X Ll i12_onBy 0 [(0, vr a0), (1, vr a1), (2, vi a2), (3, vi a3), (4, vi a4)] [] M _
  unfold f12_onBy
  refine X_iloadn 2 d0 rfl ?_
  refine X_iconst k_i_5 d1 ?_
  refine X_icmp_ge (t := 15) d2 rfl (fun h2 => ?_) (fun h2 => ?_)
  · refine X_aloadn 0 d15 rfl ?_
    refine X_iloadn 2 d16 rfl ?_
    refine X_iloadn 3 d17 rfl ?_
    refine X_cVi (as := [vi a2, vi a3]) d18 cv_x12_306 ⟨by decide, by decide⟩ rfl (Nat.le_of_ble_eq_true rfl) (T12_goesTo M a0 a2 a3) (fun r18 M18 _ => ?_)
    refine X_iload 4 d21 rfl ?_
    refine X_icmp_ne (t := 30) d23 rfl (fun h23 => ?_) (fun h23 => ?_)
    · refine X_lconst k_l_0 d26 ?_
      refine X_goto (t := 33) d27 rfl ?_
      exact X_lreturn d33 rfl rfl
    · refine X_ldc2 kc_x12_116 d30 ?_
      exact X_lreturn d33 rfl rfl
  · refine X_aloadn 0 d5 rfl ?_
    refine X_aloadn 1 d6 rfl ?_
    refine X_iloadn 2 d7 rfl ?_
    refine X_iloadn 3 d8 rfl ?_
    refine X_iload 4 d9 rfl ?_
    refine X_cVl (as := [vr a1, vi a2, vi a3, vi a4]) d11 cv_x12_299 ⟨by decide, by decide⟩ rfl (Nat.le_of_ble_eq_true rfl) (T12_costOf M a0 a1 a2 a3 a4) (fun r11 M11 _ => ?_)
    exact X_lreturn d14 rfl rfl

theorem dd12_byRule_b64 : AllD (ib i12_byRule) [(64, .iload 7, 2), (66, .bipush 21, 2), (68, .if_icmp .ge 48, 3), (71, .lload 5, 2), (73, .aload_n 0, 1), (74, .aload_n 1, 1), (75, .iload 4, 2), (77, .aload_n 0, 1), (78, .iload_n 2, 1), (79, .iconst 4, 1), (80, .invokevirtual 138, 3), (83, .iload 7, 2), (85, .invokevirtual 299, 3), (88, .aload_n 0, 1), (89, .aload_n 1, 1), (90, .iload 7, 2), (92, .aload_n 0, 1), (93, .iload_n 2, 1), (94, .iconst 5, 1), (95, .invokevirtual 138, 3), (98, .iload_n 3, 1), (99, .invokevirtual 303, 3), (102, .invokestatic 292, 3), (105, .invokestatic 296, 3), (108, .lstore 5, 2), (110, .iinc 7 1, 3), (113, .goto (-49), 3), (116, .lload 5, 2), (118, .lreturn, 1)] := allD_of (by decide +kernel)
def f12_byRule_b64_body (rc : MM → Nat → Nat → Int32 → Int32 → Int32 → Int64 → Int32 → Option (Int64 × MM)) (M : MM) (a0 : Nat) (a1 : Nat) (a2 : Int32) (a3 : Int32) (a4 : Int32) (a5 : Int64) (a7 : Int32) : Option (Int64 × MM) :=
  if (21 : Int32) ≤ a7 then
    some (a5, M)
  else
    aO M a0 12 <|
    cI (f12_ruleOf M a0 a2 (4 : Int32)) fun r80 M80 =>
    aO M80 a0 12 <|
    cJ (f12_costOf M80 a0 a1 a4 r80 a7) fun r85 M85 =>
    aO M85 a0 12 <|
    cI (f12_ruleOf M85 a0 a2 (5 : Int32)) fun r95 M95 =>
    aO M95 a0 12 <|
    cJ (f12_onBy M95 a0 a1 a7 r95 a3) fun r99 M99 =>
    cJ (f12_sum M99 r85 r99) fun r102 M102 =>
    cJ (f12_lesser M102 a5 r102) fun r105 M105 =>
    rc M105 a0 a1 a2 a3 a4 r105 (a7 + (1 : Int32))
def f12_byRule_b64 : MM → Nat → Nat → Int32 → Int32 → Int32 → Int64 → Int32 → Option (Int64 × MM) := LP8 (f12_byRule_b64_body) FU
set_option maxRecDepth 4000 in
theorem T12_byRule_b64 : ∀ (M : MM) (a0 : Nat) (a1 : Nat) (a2 : Int32) (a3 : Int32) (a4 : Int32) (a5 : Int64) (a7 : Int32), X Ll i12_byRule 64 [(0, vr a0), (1, vr a1), (2, vi a2), (3, vi a3), (4, vi a4), (5, vl a5), (7, vi a7)] [] M (f12_byRule_b64 M a0 a1 a2 a3 a4 a5 a7) := by
  obtain ⟨d64, d66, d68, d71, d73, d74, d75, d77, d78, d79, d80, d83, d85, d88, d89, d90, d92, d93, d94, d95, d98, d99, d102, d105, d108, d110, d113, d116, d118, -⟩ := dd12_byRule_b64
  refine LP8_i (P := fun M a0 a1 a2 a3 a4 a5 a7 o => X Ll i12_byRule 64 [(0, vr a0), (1, vr a1), (2, vi a2), (3, vi a3), (4, vi a4), (5, vl a5), (7, vi a7)] [] M o) (fun _ _ _ _ _ _ _ _ => X_none) (fun rc ih M a0 a1 a2 a3 a4 a5 a7 => ?_) FU
  unfold f12_byRule_b64_body
  refine X_iload 6 d64 rfl ?_
  refine X_bipush k_b_21 d66 ?_
  refine X_icmp_ge (t := 116) d68 rfl (fun h68 => ?_) (fun h68 => ?_)
  · refine X_lload 5 d116 rfl ?_
    exact X_lreturn d118 rfl rfl
  · refine X_lload 5 d71 rfl ?_
    refine X_aloadn 0 d73 rfl ?_
    refine X_aloadn 1 d74 rfl ?_
    refine X_iload 4 d75 rfl ?_
    refine X_aloadn 0 d77 rfl ?_
    refine X_iloadn 2 d78 rfl ?_
    refine X_iconst k_i_4 d79 ?_
    refine X_cVi (as := [vi a2, vi (4 : Int32)]) d80 cv_x12_138 ⟨by decide, by decide⟩ rfl (Nat.le_of_ble_eq_true rfl) (T12_ruleOf M a0 a2 (4 : Int32)) (fun r80 M80 _ => ?_)
    refine X_iload 6 d83 rfl ?_
    refine X_cVl (as := [vr a1, vi a4, vi r80, vi a7]) d85 cv_x12_299 ⟨by decide, by decide⟩ rfl (Nat.le_of_ble_eq_true rfl) (T12_costOf M80 a0 a1 a4 r80 a7) (fun r85 M85 _ => ?_)
    refine X_aloadn 0 d88 rfl ?_
    refine X_aloadn 1 d89 rfl ?_
    refine X_iload 6 d90 rfl ?_
    refine X_aloadn 0 d92 rfl ?_
    refine X_iloadn 2 d93 rfl ?_
    refine X_iconst k_i_5 d94 ?_
    refine X_cVi (as := [vi a2, vi (5 : Int32)]) d95 cv_x12_138 ⟨by decide, by decide⟩ rfl (Nat.le_of_ble_eq_true rfl) (T12_ruleOf M85 a0 a2 (5 : Int32)) (fun r95 M95 _ => ?_)
    refine X_iloadn 3 d98 rfl ?_
    refine X_cVl (as := [vr a1, vi a7, vi r95, vi a3]) d99 cv_x12_303 ⟨by decide, by decide⟩ rfl (Nat.le_of_ble_eq_true rfl) (T12_onBy M95 a0 a1 a7 r95 a3) (fun r99 M99 _ => ?_)
    refine X_cSl (as := [vl r85, vl r99]) d102 cs_x12_292 ⟨by decide, by decide⟩ rfl (Nat.le_of_ble_eq_true rfl) (T12_sum M99 r85 r99) (fun r102 M102 _ => ?_)
    refine X_cSl (as := [vl a5, vl r102]) d105 cs_x12_296 ⟨by decide, by decide⟩ rfl (Nat.le_of_ble_eq_true rfl) (T12_lesser M102 a5 r102) (fun r105 M105 _ => ?_)
    refine X_lstore (lv' := [(5, vl r105), (0, vr a0), (1, vr a1), (2, vi a2), (3, vi a3), (4, vi a4), (7, vi a7)]) d108 (by decide) rfl ?_
    refine X_inc (lv' := [(7, vi (a7 + (1 : Int32))), (5, vl r105), (0, vr a0), (1, vr a1), (2, vi a2), (3, vi a3), (4, vi a4)]) 6 d110 k_i_1 rfl (by decide) rfl ?_
    refine X_goto (t := 64) d113 rfl ?_
    refine X_sub [2, 3, 4, 5, 6, 1, 0] rfl ?_
    exact ih M105 a0 a1 a2 a3 a4 r105 (a7 + (1 : Int32))

theorem dd12_byRule : AllD (ib i12_byRule) [(0, .aload_n 0, 1), (1, .iload_n 2, 1), (2, .iconst 2, 1), (3, .invokevirtual 138, 3), (6, .istore 4, 2), (8, .aload_n 0, 1), (9, .iload_n 2, 1), (10, .iconst 3, 1), (11, .invokevirtual 138, 3), (14, .ifCond .ne 17, 3), (17, .iload_n 3, 1), (18, .iload 4, 2), (20, .if_icmp .ne 7, 3), (23, .lconst 0, 1), (24, .goto 6, 3), (27, .ldc2_w 116, 3), (30, .lreturn, 1), (31, .aload_n 0, 1), (32, .iload_n 2, 1), (33, .iconst 3, 1), (34, .invokevirtual 138, 3), (37, .iconst 1, 1), (38, .if_icmp .ne 18, 3), (41, .aload_n 0, 1), (42, .aload_n 1, 1), (43, .iload 4, 2), (45, .aload_n 0, 1), (46, .iload_n 2, 1), (47, .iconst 4, 1), (48, .invokevirtual 138, 3), (51, .iload_n 3, 1), (52, .invokevirtual 299, 3), (55, .lreturn, 1), (56, .ldc2_w 116, 3), (59, .lstore 5, 2), (61, .iconst 0, 1), (62, .istore 7, 2)] := allD_of (by decide +kernel)
def f12_byRule (M : MM) (a0 : Nat) (a1 : Nat) (a2 : Int32) (a3 : Int32) : Option (Int64 × MM) :=
  aO M a0 12 <|
  cI (f12_ruleOf M a0 a2 (2 : Int32)) fun r3 M3 =>
  aO M3 a0 12 <|
  cI (f12_ruleOf M3 a0 a2 (3 : Int32)) fun r11 M11 =>
  if r11 = 0 then
    if a3 = r3 then
      some ((0 : Int64), M11)
    else
      some ((-1 : Int64), M11)
  else
    aO M11 a0 12 <|
    cI (f12_ruleOf M11 a0 a2 (3 : Int32)) fun r34 M34 =>
    if r34 = (1 : Int32) then
      aO M34 a0 12 <|
      cI (f12_ruleOf M34 a0 a2 (4 : Int32)) fun r48 M48 =>
      aO M48 a0 12 <|
      cJ (f12_costOf M48 a0 a1 r3 r48 a3) fun r52 M52 =>
      some (r52, M52)
    else
      f12_byRule_b64 M34 a0 a1 a2 a3 r3 (-1 : Int64) (0 : Int32)
set_option maxRecDepth 4000 in
theorem T12_byRule (M : MM) (a0 : Nat) (a1 : Nat) (a2 : Int32) (a3 : Int32) : ∀ q, f12_byRule M a0 a1 a2 a3 = some q → Run i12_byRule [vr a0, vr a1, vi a2, vi a3] M (Ll q) := by
  obtain ⟨d0, d1, d2, d3, d6, d8, d9, d10, d11, d14, d17, d18, d20, d23, d24, d27, d30, d31, d32, d33, d34, d37, d38, d41, d42, d43, d45, d46, d47, d48, d51, d52, d55, d56, d59, d61, d62, -⟩ := dd12_byRule
  refine Run_of_X (by decide) (Nat.le_of_ble_eq_true rfl) ?_
  show X Ll i12_byRule 0 [(0, vr a0), (1, vr a1), (2, vi a2), (3, vi a3)] [] M _
  unfold f12_byRule
  refine X_aloadn 0 d0 rfl ?_
  refine X_iloadn 2 d1 rfl ?_
  refine X_iconst k_i_2 d2 ?_
  refine X_cVi (as := [vi a2, vi (2 : Int32)]) d3 cv_x12_138 ⟨by decide, by decide⟩ rfl (Nat.le_of_ble_eq_true rfl) (T12_ruleOf M a0 a2 (2 : Int32)) (fun r3 M3 _ => ?_)
  refine X_istore (lv' := [(4, vi r3), (0, vr a0), (1, vr a1), (2, vi a2), (3, vi a3)]) d6 (by decide) rfl ?_
  refine X_aloadn 1 d8 rfl ?_
  refine X_iloadn 3 d9 rfl ?_
  refine X_iconst k_i_3 d10 ?_
  refine X_cVi (as := [vi a2, vi (3 : Int32)]) d11 cv_x12_138 ⟨by decide, by decide⟩ rfl (Nat.le_of_ble_eq_true rfl) (T12_ruleOf M3 a0 a2 (3 : Int32)) (fun r11 M11 _ => ?_)
  refine X_if_ne (t := 31) d14 rfl (fun h14 => ?_) (fun h14 => ?_)
  · refine X_iloadn 4 d17 rfl ?_
    refine X_iload 0 d18 rfl ?_
    refine X_icmp_ne (t := 27) d20 rfl (fun h20 => ?_) (fun h20 => ?_)
    · refine X_lconst k_l_0 d23 ?_
      refine X_goto (t := 30) d24 rfl ?_
      exact X_lreturn d30 rfl rfl
    · refine X_ldc2 kc_x12_116 d27 ?_
      exact X_lreturn d30 rfl rfl
  · refine X_aloadn 1 d31 rfl ?_
    refine X_iloadn 3 d32 rfl ?_
    refine X_iconst k_i_3 d33 ?_
    refine X_cVi (as := [vi a2, vi (3 : Int32)]) d34 cv_x12_138 ⟨by decide, by decide⟩ rfl (Nat.le_of_ble_eq_true rfl) (T12_ruleOf M11 a0 a2 (3 : Int32)) (fun r34 M34 _ => ?_)
    refine X_iconst k_i_1 d37 ?_
    refine X_icmp_ne (t := 56) d38 rfl (fun h38 => ?_) (fun h38 => ?_)
    · refine X_aloadn 1 d41 rfl ?_
      refine X_aloadn 2 d42 rfl ?_
      refine X_iload 0 d43 rfl ?_
      refine X_aloadn 1 d45 rfl ?_
      refine X_iloadn 3 d46 rfl ?_
      refine X_iconst k_i_4 d47 ?_
      refine X_cVi (as := [vi a2, vi (4 : Int32)]) d48 cv_x12_138 ⟨by decide, by decide⟩ rfl (Nat.le_of_ble_eq_true rfl) (T12_ruleOf M34 a0 a2 (4 : Int32)) (fun r48 M48 _ => ?_)
      refine X_iloadn 4 d51 rfl ?_
      refine X_cVl (as := [vr a1, vi r3, vi r48, vi a3]) d52 cv_x12_299 ⟨by decide, by decide⟩ rfl (Nat.le_of_ble_eq_true rfl) (T12_costOf M48 a0 a1 r3 r48 a3) (fun r52 M52 _ => ?_)
      exact X_lreturn d55 rfl rfl
    · refine X_ldc2 kc_x12_116 d56 ?_
      refine X_lstore (lv' := [(5, vl (-1 : Int64)), (4, vi r3), (0, vr a0), (1, vr a1), (2, vi a2), (3, vi a3)]) d59 (by decide) rfl ?_
      refine X_iconst k_i_0 d61 ?_
      refine X_istore (lv' := [(7, vi (0 : Int32)), (5, vl (-1 : Int64)), (4, vi r3), (0, vr a0), (1, vr a1), (2, vi a2), (3, vi a3)]) d62 (by decide) rfl ?_
      refine X_sub [3, 4, 5, 6, 2, 1, 0] rfl ?_
      exact T12_byRule_b64 M34 a0 a1 a2 a3 r3 (-1 : Int64) (0 : Int32)

theorem dd12_can : AllD (ib i12_can) [(0, .aload_n 0, 1), (1, .iconst 0, 1), (2, .putfield 113, 3), (5, .aload_n 0, 1), (6, .invokevirtual 271, 3), (9, .ireturn, 1)] := allD_of (by decide +kernel)
def f12_can (M : MM) (a0 : Nat) : Option (Int32 × MM) :=
  aO M a0 12 <|
  bM (sI M a0 0 (0 : Int32)) fun M2 =>
  aO M2 a0 12 <|
  cI (f12_allThatCan M2 a0) fun r6 M6 =>
  some (r6, M6)
set_option maxRecDepth 4000 in
theorem T12_can (M : MM) (a0 : Nat) : ∀ q, f12_can M a0 = some q → Run i12_can [vr a0] M (Li q) := by
  obtain ⟨d0, d1, d2, d5, d6, d9, -⟩ := dd12_can
  refine Run_of_X (by decide) (Nat.le_of_ble_eq_true rfl) ?_
  show X Li i12_can 0 [(0, vr a0)] [] M _
  unfold f12_can
  refine X_aloadn 0 d0 rfl ?_
  refine X_iconst k_i_0 d1 ?_
  refine X_putI d2 fp_x12_113 ?_
  refine X_bM fun M2 _ => ?_
  refine X_aloadn 0 d5 rfl ?_
  refine X_cVi (as := []) d6 cv_x12_271 ⟨by decide, by decide⟩ rfl (Nat.le_of_ble_eq_true rfl) (T12_allThatCan M2 a0) (fun r6 M6 _ => ?_)
  exact X_ireturn d9 rfl rfl

theorem dd12_canPop : AllD (ib i12_canPop) [(0, .aload_n 0, 1), (1, .aload_n 0, 1), (2, .getfield 50, 3), (5, .iload_n 1, 1), (6, .iload_n 2, 1), (7, .iload_n 3, 1), (8, .invokevirtual 299, 3), (11, .lconst 0, 1), (12, .lcmp, 1), (13, .ifCond .lt 7, 3), (16, .iconst 1, 1), (17, .goto 4, 3), (20, .iconst 0, 1), (21, .ireturn, 1)] := allD_of (by decide +kernel)
def f12_canPop (M : MM) (a0 : Nat) (a1 : Int32) (a2 : Int32) (a3 : Int32) : Option (Int32 × MM) :=
  aO M a0 12 <|
  aO M a0 12 <|
  cJ (f12_costOf M a0 (mR M a0 28) a1 a2 a3) fun r8 M8 =>
  if r8 < (0 : Int64) then
    some ((0 : Int32), M8)
  else
    some ((1 : Int32), M8)
set_option maxRecDepth 4000 in
theorem T12_canPop (M : MM) (a0 : Nat) (a1 : Int32) (a2 : Int32) (a3 : Int32) : ∀ q, f12_canPop M a0 a1 a2 a3 = some q → Run i12_canPop [vr a0, vi a1, vi a2, vi a3] M (Li q) := by
  obtain ⟨d0, d1, d2, d5, d6, d7, d8, d11, d12, d13, d16, d17, d20, d21, -⟩ := dd12_canPop
  refine Run_of_X (by decide) (Nat.le_of_ble_eq_true rfl) ?_
  show X Li i12_canPop 0 [(0, vr a0), (1, vi a1), (2, vi a2), (3, vi a3)] [] M _
  unfold f12_canPop
  refine X_aloadn 0 d0 rfl ?_
  refine X_aloadn 0 d1 rfl ?_
  refine X_getR d2 fg_x12_50 ?_
  refine X_iloadn 1 d5 rfl ?_
  refine X_iloadn 2 d6 rfl ?_
  refine X_iloadn 3 d7 rfl ?_
  refine X_cVl (as := [vr (mR M a0 28), vi a1, vi a2, vi a3]) d8 cv_x12_299 ⟨by decide, by decide⟩ rfl (Nat.le_of_ble_eq_true rfl) (T12_costOf M a0 (mR M a0 28) a1 a2 a3) (fun r8 M8 _ => ?_)
  refine X_lconst k_l_0 d11 ?_
  refine X_lif_lt (t := 20) d12 d13 rfl (fun h12 => ?_) (fun h12 => ?_)
  · refine X_iconst k_i_0 d20 ?_
    exact X_zreturnc d21 rfl (by decide) rfl
  · refine X_iconst k_i_1 d16 ?_
    refine X_goto (t := 21) d17 rfl ?_
    exact X_zreturnc d21 rfl (by decide) rfl

theorem dd12_states : AllD (ib i12_states) [(0, .aload_n 0, 1), (1, .getfield 7, 3), (4, .iconst 0, 1), (5, .iaload, 1), (6, .ireturn, 1)] := allD_of (by decide +kernel)
def f12_states (M : MM) (a0 : Nat) : Option (Int32 × MM) :=
  aO M a0 12 <|
  aA M (mR M a0 1) 0 (0 : Int32) <|
  some (mI M (mR M a0 1) (0 : Int32).toNatClampNeg, M)
set_option maxRecDepth 4000 in
theorem T12_states (M : MM) (a0 : Nat) : ∀ q, f12_states M a0 = some q → Run i12_states [vr a0] M (Li q) := by
  obtain ⟨d0, d1, d4, d5, d6, -⟩ := dd12_states
  refine Run_of_X (by decide) (Nat.le_of_ble_eq_true rfl) ?_
  show X Li i12_states 0 [(0, vr a0)] [] M _
  unfold f12_states
  refine X_aloadn 0 d0 rfl ?_
  refine X_getR d1 fg_x12_7 ?_
  refine X_iconst k_i_0 d4 ?_
  refine X_iaload d5 ?_
  exact X_ireturn d6 rfl rfl

theorem dd12_in : AllD (ib i12_in) [(0, .iload_n 0, 1), (1, .iload_n 1, 1), (2, .if_icmp .lt 12, 3), (5, .iload_n 0, 1), (6, .iload_n 2, 1), (7, .if_icmp .gt 7, 3), (10, .iconst 1, 1), (11, .goto 4, 3), (14, .iconst 0, 1), (15, .ireturn, 1)] := allD_of (by decide +kernel)
def f12_in (M : MM) (a0 : Int32) (a1 : Int32) (a2 : Int32) : Option (Int32 × MM) :=
  if a0 < a1 then
    some ((0 : Int32), M)
  else
    if a2 < a0 then
      some ((0 : Int32), M)
    else
      some ((1 : Int32), M)
set_option maxRecDepth 4000 in
theorem T12_in (M : MM) (a0 : Int32) (a1 : Int32) (a2 : Int32) : ∀ q, f12_in M a0 a1 a2 = some q → Run i12_in [vi a0, vi a1, vi a2] M (Li q) := by
  obtain ⟨d0, d1, d2, d5, d6, d7, d10, d11, d14, d15, -⟩ := dd12_in
  refine Run_of_X (by decide) (Nat.le_of_ble_eq_true rfl) ?_
  show X Li i12_in 0 [(0, vi a0), (1, vi a1), (2, vi a2)] [] M _
  unfold f12_in
  refine X_iloadn 0 d0 rfl ?_
  refine X_iloadn 1 d1 rfl ?_
  refine X_icmp_lt (t := 14) d2 rfl (fun h2 => ?_) (fun h2 => ?_)
  · refine X_iconst k_i_0 d14 ?_
    exact X_zreturnc d15 rfl (by decide) rfl
  · refine X_iloadn 0 d5 rfl ?_
    refine X_iloadn 2 d6 rfl ?_
    refine X_icmp_gt (t := 14) d7 rfl (fun h7 => ?_) (fun h7 => ?_)
    · refine X_iconst k_i_0 d14 ?_
      exact X_zreturnc d15 rfl (by decide) rfl
    · refine X_iconst k_i_1 d10 ?_
      refine X_goto (t := 15) d11 rfl ?_
      exact X_zreturnc d15 rfl (by decide) rfl

theorem dd12_isState : AllD (ib i12_isState) [(0, .iload_n 1, 1), (1, .iconst 0, 1), (2, .aload_n 0, 1), (3, .invokevirtual 120, 3), (6, .iconst 1, 1), (7, .isub, 1), (8, .invokestatic 124, 3), (11, .ireturn, 1)] := allD_of (by decide +kernel)
def f12_isState (M : MM) (a0 : Nat) (a1 : Int32) : Option (Int32 × MM) :=
  aO M a0 12 <|
  cI (f12_states M a0) fun r3 M3 =>
  cI (f12_in M3 a1 (0 : Int32) (r3 - (1 : Int32))) fun r8 M8 =>
  gd (r8 = 0 ∨ r8 = 1) <|
  some (r8, M8)
set_option maxRecDepth 4000 in
theorem T12_isState (M : MM) (a0 : Nat) (a1 : Int32) : ∀ q, f12_isState M a0 a1 = some q → Run i12_isState [vr a0, vi a1] M (Li q) := by
  obtain ⟨d0, d1, d2, d3, d6, d7, d8, d11, -⟩ := dd12_isState
  refine Run_of_X (by decide) (Nat.le_of_ble_eq_true rfl) ?_
  show X Li i12_isState 0 [(0, vr a0), (1, vi a1)] [] M _
  unfold f12_isState
  refine X_iloadn 1 d0 rfl ?_
  refine X_iconst k_i_0 d1 ?_
  refine X_aloadn 0 d2 rfl ?_
  refine X_cVi (as := []) d3 cv_x12_120 ⟨by decide, by decide⟩ rfl (Nat.le_of_ble_eq_true rfl) (T12_states M a0) (fun r3 M3 _ => ?_)
  refine X_iconst k_i_1 d6 ?_
  refine X_isub d7 ?_
  refine X_cSi (as := [vi a1, vi (0 : Int32), vi (r3 - (1 : Int32))]) d8 cs_x12_124 ⟨by decide, by decide⟩ rfl (Nat.le_of_ble_eq_true rfl) (T12_in M3 a1 (0 : Int32) (r3 - (1 : Int32))) (fun r8 M8 _ => ?_)
  exact X_zreturn d11 rfl rfl

theorem dd12_isSign : AllD (ib i12_isSign) [(0, .iload_n 1, 1), (1, .iconst 0, 1), (2, .aload_n 0, 1), (3, .invokevirtual 128, 3), (6, .iconst 1, 1), (7, .isub, 1), (8, .invokestatic 124, 3), (11, .ireturn, 1)] := allD_of (by decide +kernel)
def f12_isSign (M : MM) (a0 : Nat) (a1 : Int32) : Option (Int32 × MM) :=
  aO M a0 12 <|
  cI (f12_signs M a0) fun r3 M3 =>
  cI (f12_in M3 a1 (0 : Int32) (r3 - (1 : Int32))) fun r8 M8 =>
  gd (r8 = 0 ∨ r8 = 1) <|
  some (r8, M8)
set_option maxRecDepth 4000 in
theorem T12_isSign (M : MM) (a0 : Nat) (a1 : Int32) : ∀ q, f12_isSign M a0 a1 = some q → Run i12_isSign [vr a0, vi a1] M (Li q) := by
  obtain ⟨d0, d1, d2, d3, d6, d7, d8, d11, -⟩ := dd12_isSign
  refine Run_of_X (by decide) (Nat.le_of_ble_eq_true rfl) ?_
  show X Li i12_isSign 0 [(0, vr a0), (1, vi a1)] [] M _
  unfold f12_isSign
  refine X_iloadn 1 d0 rfl ?_
  refine X_iconst k_i_0 d1 ?_
  refine X_aloadn 0 d2 rfl ?_
  refine X_cVi (as := []) d3 cv_x12_128 ⟨by decide, by decide⟩ rfl (Nat.le_of_ble_eq_true rfl) (T12_signs M a0) (fun r3 M3 _ => ?_)
  refine X_iconst k_i_1 d6 ?_
  refine X_isub d7 ?_
  refine X_cSi (as := [vi a1, vi (0 : Int32), vi (r3 - (1 : Int32))]) d8 cs_x12_124 ⟨by decide, by decide⟩ rfl (Nat.le_of_ble_eq_true rfl) (T12_in M3 a1 (0 : Int32) (r3 - (1 : Int32))) (fun r8 M8 _ => ?_)
  exact X_zreturn d11 rfl rfl

theorem dd12_targetIs_b41 : AllD (ib i12_targetIs) [(41, .iastore, 1), (42, .aload_n 0, 1), (43, .getfield 47, 3), (46, .iconst 0, 1), (47, .iload_n 2, 1), (48, .iastore, 1), (49, .return_, 1)] := allD_of (by decide +kernel)
def f12_targetIs_b41 (M : MM) (a0 : Nat) (a2 : Int32) (s0 : Int32) (s1 : Int32) (s2 : Nat) : Option MM :=
  aA M s2 0 s1 <|
  bM (sI M s2 s1.toNatClampNeg s0) fun M41 =>
  aO M41 a0 12 <|
  aA M41 (mR M41 a0 27) 0 (0 : Int32) <|
  bM (sI M41 (mR M41 a0 27) (0 : Int32).toNatClampNeg a2) fun M48 =>
  some M48
set_option maxRecDepth 4000 in
theorem T12_targetIs_b41 : ∀ (M : MM) (a0 : Nat) (a2 : Int32) (s0 : Int32) (s1 : Int32) (s2 : Nat), X Lv i12_targetIs 41 [(0, vr a0), (2, vi a2)] [vi s0, vi s1, vr s2] M (f12_targetIs_b41 M a0 a2 s0 s1 s2) := by
  obtain ⟨d41, d42, d43, d46, d47, d48, d49, -⟩ := dd12_targetIs_b41
  intro M a0 a2 s0 s1 s2
  unfold f12_targetIs_b41
  refine X_iastore d41 ?_
  refine X_bM fun M41 _ => ?_
  refine X_aloadn 0 d42 rfl ?_
  refine X_getR d43 fg_x12_47 ?_
  refine X_iconst k_i_0 d46 ?_
  refine X_iloadn 1 d47 rfl ?_
  refine X_iastore d48 ?_
  refine X_bM fun M48 _ => ?_
  exact X_vreturn d49 rfl rfl

theorem dd12_targetIs_b26 : AllD (ib i12_targetIs) [(26, .iastore, 1), (27, .aload_n 0, 1), (28, .getfield 44, 3), (31, .iconst 0, 1), (32, .iload_n 2, 1), (33, .ifCond .ge 7, 3), (36, .iconst 0, 1), (37, .goto 4, 3), (40, .iconst 1, 1)] := allD_of (by decide +kernel)
def f12_targetIs_b26 (M : MM) (a0 : Nat) (a2 : Int32) (s0 : Int32) (s1 : Int32) (s2 : Nat) : Option MM :=
  aA M s2 0 s1 <|
  bM (sI M s2 s1.toNatClampNeg s0) fun M26 =>
  aO M26 a0 12 <|
  if 0 ≤ a2 then
    f12_targetIs_b41 M26 a0 a2 (1 : Int32) (0 : Int32) (mR M26 a0 26)
  else
    f12_targetIs_b41 M26 a0 a2 (0 : Int32) (0 : Int32) (mR M26 a0 26)
set_option maxRecDepth 4000 in
theorem T12_targetIs_b26 : ∀ (M : MM) (a0 : Nat) (a2 : Int32) (s0 : Int32) (s1 : Int32) (s2 : Nat), X Lv i12_targetIs 26 [(0, vr a0), (2, vi a2)] [vi s0, vi s1, vr s2] M (f12_targetIs_b26 M a0 a2 s0 s1 s2) := by
  obtain ⟨d26, d27, d28, d31, d32, d33, d36, d37, d40, -⟩ := dd12_targetIs_b26
  intro M a0 a2 s0 s1 s2
  unfold f12_targetIs_b26
  refine X_iastore d26 ?_
  refine X_bM fun M26 _ => ?_
  refine X_aloadn 0 d27 rfl ?_
  refine X_getR d28 fg_x12_44 ?_
  refine X_iconst k_i_0 d31 ?_
  refine X_iloadn 1 d32 rfl ?_
  refine X_if_ge (t := 40) d33 rfl (fun h33 => ?_) (fun h33 => ?_)
  · refine X_iconst k_i_1 d40 ?_
    exact T12_targetIs_b41 M26 a0 a2 (1 : Int32) (0 : Int32) (mR M26 a0 26)
  · refine X_iconst k_i_0 d36 ?_
    refine X_goto (t := 41) d37 rfl ?_
    exact T12_targetIs_b41 M26 a0 a2 (0 : Int32) (0 : Int32) (mR M26 a0 26)

theorem dd12_targetIs : AllD (ib i12_targetIs) [(0, .aload_n 0, 1), (1, .iconst 1, 1), (2, .putfield 278, 3), (5, .aload_n 0, 1), (6, .getfield 38, 3), (9, .iconst 0, 1), (10, .iload_n 1, 1), (11, .iastore, 1), (12, .aload_n 0, 1), (13, .getfield 41, 3), (16, .iconst 0, 1), (17, .iload_n 2, 1), (18, .ifCond .ge 7, 3), (21, .iconst 0, 1), (22, .goto 4, 3), (25, .iconst 1, 1)] := allD_of (by decide +kernel)
def f12_targetIs (M : MM) (a0 : Nat) (a1 : Int32) (a2 : Int32) : Option MM :=
  aO M a0 12 <|
  bM (sI M a0 30 (1 : Int32)) fun M2 =>
  aO M2 a0 12 <|
  aA M2 (mR M2 a0 24) 0 (0 : Int32) <|
  bM (sI M2 (mR M2 a0 24) (0 : Int32).toNatClampNeg a1) fun M11 =>
  aO M11 a0 12 <|
  if 0 ≤ a2 then
    f12_targetIs_b26 M11 a0 a2 (1 : Int32) (0 : Int32) (mR M11 a0 25)
  else
    f12_targetIs_b26 M11 a0 a2 (0 : Int32) (0 : Int32) (mR M11 a0 25)
set_option maxRecDepth 4000 in
theorem T12_targetIs (M : MM) (a0 : Nat) (a1 : Int32) (a2 : Int32) : ∀ q, f12_targetIs M a0 a1 a2 = some q → Run i12_targetIs [vr a0, vi a1, vi a2] M (Lv q) := by
  obtain ⟨d0, d1, d2, d5, d6, d9, d10, d11, d12, d13, d16, d17, d18, d21, d22, d25, -⟩ := dd12_targetIs
  refine Run_of_X (by decide) (Nat.le_of_ble_eq_true rfl) ?_
  show X Lv i12_targetIs 0 [(0, vr a0), (1, vi a1), (2, vi a2)] [] M _
  unfold f12_targetIs
  refine X_aloadn 0 d0 rfl ?_
  refine X_iconst k_i_1 d1 ?_
  refine X_putI d2 fp_x12_278 ?_
  refine X_bM fun M2 _ => ?_
  refine X_aloadn 0 d5 rfl ?_
  refine X_getR d6 fg_x12_38 ?_
  refine X_iconst k_i_0 d9 ?_
  refine X_iloadn 1 d10 rfl ?_
  refine X_iastore d11 ?_
  refine X_bM fun M11 _ => ?_
  refine X_aloadn 0 d12 rfl ?_
  refine X_getR d13 fg_x12_41 ?_
  refine X_iconst k_i_0 d16 ?_
  refine X_iloadn 2 d17 rfl ?_
  refine X_if_ge (t := 25) d18 rfl (fun h18 => ?_) (fun h18 => ?_)
  · refine X_iconst k_i_1 d25 ?_
    refine X_sub [0, 2] rfl ?_
    exact T12_targetIs_b26 M11 a0 a2 (1 : Int32) (0 : Int32) (mR M11 a0 25)
  · refine X_iconst k_i_0 d21 ?_
    refine X_goto (t := 26) d22 rfl ?_
    refine X_sub [0, 2] rfl ?_
    exact T12_targetIs_b26 M11 a0 a2 (0 : Int32) (0 : Int32) (mR M11 a0 25)

theorem dd12_nodeOf : AllD (ib i12_nodeOf) [(0, .iconst 5, 1), (1, .iconst 4, 1), (2, .iload_n 1, 1), (3, .imul, 1), (4, .iadd, 1), (5, .iload_n 2, 1), (6, .iadd, 1), (7, .ireturn, 1)] := allD_of (by decide +kernel)
def f12_nodeOf (M : MM) (a0 : Nat) (a1 : Int32) (a2 : Int32) : Option (Int32 × MM) :=
  some (((5 : Int32) + ((4 : Int32) * a1)) + a2, M)
set_option maxRecDepth 4000 in
theorem T12_nodeOf (M : MM) (a0 : Nat) (a1 : Int32) (a2 : Int32) : ∀ q, f12_nodeOf M a0 a1 a2 = some q → Run i12_nodeOf [vr a0, vi a1, vi a2] M (Li q) := by
  obtain ⟨d0, d1, d2, d3, d4, d5, d6, d7, -⟩ := dd12_nodeOf
  refine Run_of_X (by decide) (Nat.le_of_ble_eq_true rfl) ?_
  show X Li i12_nodeOf 0 [(0, vr a0), (1, vi a1), (2, vi a2)] [] M _
  unfold f12_nodeOf
  refine X_iconst k_i_5 d0 ?_
  refine X_iconst k_i_4 d1 ?_
  refine X_iloadn 1 d2 rfl ?_
  refine X_imul d3 ?_
  refine X_iadd d4 ?_
  refine X_iloadn 2 d5 rfl ?_
  refine X_iadd d6 ?_
  exact X_ireturn d7 rfl rfl

theorem dd12_lay_b83 : AllD (ib i12_lay) [(83, .aload_n 0, 1), (84, .getfield 41, 3), (87, .iload_n 2, 1), (88, .iaload, 1), (89, .ifCond .le 35, 3), (92, .aload_n 0, 1), (93, .getfield 47, 3), (96, .iconst 3, 1), (97, .iload_n 2, 1), (98, .imul, 1), (99, .iaload, 1), (100, .iload_n 3, 1), (101, .if_icmp .ne 23, 3), (104, .aload_n 1, 1), (105, .aload_n 0, 1), (106, .aload_n 0, 1), (107, .getfield 38, 3), (110, .iload_n 2, 1), (111, .iaload, 1), (112, .iload_n 3, 1), (113, .aload_n 0, 1), (114, .iload_n 2, 1), (115, .iconst 1, 1), (116, .invokevirtual 285, 3), (119, .invokevirtual 281, 3), (122, .lconst 0, 1), (123, .lastore, 1)] := allD_of (by decide +kernel)
def f12_lay_b83 (K124 : MM → Nat → Nat → Int32 → Int32 → Option MM) (M : MM) (a0 : Nat) (a1 : Nat) (a2 : Int32) (a3 : Int32) : Option MM :=
  aO M a0 12 <|
  aA M (mR M a0 25) 0 a2 <|
  if (mI M (mR M a0 25) a2.toNatClampNeg) ≤ 0 then
    K124 M a0 a1 a2 a3
  else
    aO M a0 12 <|
    aA M (mR M a0 27) 0 ((3 : Int32) * a2) <|
    if (mI M (mR M a0 27) ((3 : Int32) * a2).toNatClampNeg) = a3 then
      aO M a0 12 <|
      aA M (mR M a0 24) 0 a2 <|
      aO M a0 12 <|
      cI (f12_nodeOf M a0 a2 (1 : Int32)) fun r116 M116 =>
      aO M116 a0 12 <|
      cI (f12_cell M116 a0 (mI M (mR M a0 24) a2.toNatClampNeg) a3 r116) fun r119 M119 =>
      aA M119 a1 1 r119 <|
      bM (sJ M119 a1 r119.toNatClampNeg (0 : Int64)) fun M123 =>
      K124 M123 a0 a1 a2 a3
    else
      K124 M a0 a1 a2 a3
set_option maxRecDepth 4000 in
theorem T12_lay_b83 {K124 : MM → Nat → Nat → Int32 → Int32 → Option MM} (hK124 : ∀ (M : MM) (a0 : Nat) (a1 : Nat) (a2 : Int32) (a3 : Int32), X Lv i12_lay 124 [(0, vr a0), (1, vr a1), (2, vi a2), (3, vi a3)] [] M (K124 M a0 a1 a2 a3)) : ∀ (M : MM) (a0 : Nat) (a1 : Nat) (a2 : Int32) (a3 : Int32), X Lv i12_lay 83 [(0, vr a0), (1, vr a1), (2, vi a2), (3, vi a3)] [] M (f12_lay_b83 K124 M a0 a1 a2 a3) := by
  obtain ⟨d83, d84, d87, d88, d89, d92, d93, d96, d97, d98, d99, d100, d101, d104, d105, d106, d107, d110, d111, d112, d113, d114, d115, d116, d119, d122, d123, -⟩ := dd12_lay_b83
  intro M a0 a1 a2 a3
  unfold f12_lay_b83
  refine X_aloadn 0 d83 rfl ?_
  refine X_getR d84 fg_x12_41 ?_
  refine X_iloadn 2 d87 rfl ?_
  refine X_iaload d88 ?_
  refine X_if_le (t := 124) d89 rfl (fun h89 => ?_) (fun h89 => ?_)
  · exact hK124 M a0 a1 a2 a3
  · refine X_aloadn 0 d92 rfl ?_
    refine X_getR d93 fg_x12_47 ?_
    refine X_iconst k_i_3 d96 ?_
    refine X_iloadn 2 d97 rfl ?_
    refine X_imul d98 ?_
    refine X_iaload d99 ?_
    refine X_iloadn 3 d100 rfl ?_
    refine X_icmp_ne (t := 124) d101 rfl (fun h101 => ?_) (fun h101 => ?_)
    · refine X_aloadn 1 d104 rfl ?_
      refine X_aloadn 0 d105 rfl ?_
      refine X_aloadn 0 d106 rfl ?_
      refine X_getR d107 fg_x12_38 ?_
      refine X_iloadn 2 d110 rfl ?_
      refine X_iaload d111 ?_
      refine X_iloadn 3 d112 rfl ?_
      refine X_aloadn 0 d113 rfl ?_
      refine X_iloadn 2 d114 rfl ?_
      refine X_iconst k_i_1 d115 ?_
      refine X_cVi (as := [vi a2, vi (1 : Int32)]) d116 cv_x12_285 ⟨by decide, by decide⟩ rfl (Nat.le_of_ble_eq_true rfl) (T12_nodeOf M a0 a2 (1 : Int32)) (fun r116 M116 _ => ?_)
      refine X_cVi (as := [vi (mI M (mR M a0 24) a2.toNatClampNeg), vi a3, vi r116]) d119 cv_x12_281 ⟨by decide, by decide⟩ rfl (Nat.le_of_ble_eq_true rfl) (T12_cell M116 a0 (mI M (mR M a0 24) a2.toNatClampNeg) a3 r116) (fun r119 M119 _ => ?_)
      refine X_lconst k_l_0 d122 ?_
      refine X_lastore d123 ?_
      refine X_bM fun M123 _ => ?_
      exact hK124 M123 a0 a1 a2 a3
    · exact hK124 M a0 a1 a2 a3

theorem dd12_lay_b124 : AllD (ib i12_lay) [(124, .iinc 3 1, 3), (127, .goto (-94), 3)] := allD_of (by decide +kernel)
def f12_lay_b124 (K33 : MM → Nat → Nat → Int32 → Int32 → Option MM) (M : MM) (a0 : Nat) (a1 : Nat) (a2 : Int32) (a3 : Int32) : Option MM :=
  K33 M a0 a1 a2 (a3 + (1 : Int32))
set_option maxRecDepth 4000 in
theorem T12_lay_b124 {K33 : MM → Nat → Nat → Int32 → Int32 → Option MM} (hK33 : ∀ (M : MM) (a0 : Nat) (a1 : Nat) (a2 : Int32) (a3 : Int32), X Lv i12_lay 33 [(0, vr a0), (1, vr a1), (2, vi a2), (3, vi a3)] [] M (K33 M a0 a1 a2 a3)) : ∀ (M : MM) (a0 : Nat) (a1 : Nat) (a2 : Int32) (a3 : Int32), X Lv i12_lay 124 [(0, vr a0), (1, vr a1), (2, vi a2), (3, vi a3)] [] M (f12_lay_b124 K33 M a0 a1 a2 a3) := by
  obtain ⟨d124, d127, -⟩ := dd12_lay_b124
  intro M a0 a1 a2 a3
  unfold f12_lay_b124
  refine X_inc (lv' := [(3, vi (a3 + (1 : Int32))), (0, vr a0), (1, vr a1), (2, vi a2)]) 3 d124 k_i_1 rfl (by decide) rfl ?_
  refine X_goto (t := 33) d127 rfl ?_
  refine X_sub [1, 2, 3, 0] rfl ?_
  exact hK33 M a0 a1 a2 (a3 + (1 : Int32))

theorem dd12_lay_b33 : AllD (ib i12_lay) [(33, .iload_n 3, 1), (34, .aload_n 0, 1), (35, .invokevirtual 128, 3), (38, .if_icmp .ge 92, 3), (41, .aload_n 0, 1), (42, .getfield 41, 3), (45, .iload_n 2, 1), (46, .iaload, 1), (47, .ifCond .ne 36, 3), (50, .aload_n 0, 1), (51, .getfield 44, 3), (54, .iload_n 2, 1), (55, .iaload, 1), (56, .iconst 1, 1), (57, .if_icmp .ne 26, 3), (60, .aload_n 1, 1), (61, .aload_n 0, 1), (62, .aload_n 0, 1), (63, .getfield 38, 3), (66, .iload_n 2, 1), (67, .iaload, 1), (68, .iload_n 3, 1), (69, .aload_n 0, 1), (70, .iload_n 2, 1), (71, .iconst 0, 1), (72, .invokevirtual 285, 3), (75, .invokevirtual 281, 3), (78, .lconst 0, 1), (79, .lastore, 1), (80, .goto 44, 3), (130, .iinc 2 1, 3), (133, .goto (-110), 3)] := allD_of (by decide +kernel)
def f12_lay_b33_body (K23 : MM → Nat → Nat → Int32 → Option MM) (rc : MM → Nat → Nat → Int32 → Int32 → Option MM) (M : MM) (a0 : Nat) (a1 : Nat) (a2 : Int32) (a3 : Int32) : Option MM :=
  aO M a0 12 <|
  cI (f12_signs M a0) fun r35 M35 =>
  if r35 ≤ a3 then
    K23 M35 a0 a1 (a2 + (1 : Int32))
  else
    aO M35 a0 12 <|
    aA M35 (mR M35 a0 25) 0 a2 <|
    if (mI M35 (mR M35 a0 25) a2.toNatClampNeg) = 0 then
      aO M35 a0 12 <|
      aA M35 (mR M35 a0 26) 0 a2 <|
      if (mI M35 (mR M35 a0 26) a2.toNatClampNeg) = (1 : Int32) then
        aO M35 a0 12 <|
        aA M35 (mR M35 a0 24) 0 a2 <|
        aO M35 a0 12 <|
        cI (f12_nodeOf M35 a0 a2 (0 : Int32)) fun r72 M72 =>
        aO M72 a0 12 <|
        cI (f12_cell M72 a0 (mI M35 (mR M35 a0 24) a2.toNatClampNeg) a3 r72) fun r75 M75 =>
        aA M75 a1 1 r75 <|
        bM (sJ M75 a1 r75.toNatClampNeg (0 : Int64)) fun M79 =>
        (f12_lay_b124 rc) M79 a0 a1 a2 a3
      else
        (f12_lay_b83 (f12_lay_b124 rc)) M35 a0 a1 a2 a3
    else
      (f12_lay_b83 (f12_lay_b124 rc)) M35 a0 a1 a2 a3
def f12_lay_b33 (K23 : MM → Nat → Nat → Int32 → Option MM) : MM → Nat → Nat → Int32 → Int32 → Option MM := LP5 (f12_lay_b33_body K23) FU
set_option maxRecDepth 4000 in
theorem T12_lay_b33 {K23 : MM → Nat → Nat → Int32 → Option MM} (hK23 : ∀ (M : MM) (a0 : Nat) (a1 : Nat) (a2 : Int32), X Lv i12_lay 23 [(0, vr a0), (1, vr a1), (2, vi a2)] [] M (K23 M a0 a1 a2)) : ∀ (M : MM) (a0 : Nat) (a1 : Nat) (a2 : Int32) (a3 : Int32), X Lv i12_lay 33 [(0, vr a0), (1, vr a1), (2, vi a2), (3, vi a3)] [] M (f12_lay_b33 K23 M a0 a1 a2 a3) := by
  obtain ⟨d33, d34, d35, d38, d41, d42, d45, d46, d47, d50, d51, d54, d55, d56, d57, d60, d61, d62, d63, d66, d67, d68, d69, d70, d71, d72, d75, d78, d79, d80, d130, d133, -⟩ := dd12_lay_b33
  refine LP5_i (P := fun M a0 a1 a2 a3 o => X Lv i12_lay 33 [(0, vr a0), (1, vr a1), (2, vi a2), (3, vi a3)] [] M o) (fun _ _ _ _ _ => X_none) (fun rc ih M a0 a1 a2 a3 => ?_) FU
  unfold f12_lay_b33_body
  refine X_iloadn 3 d33 rfl ?_
  refine X_aloadn 0 d34 rfl ?_
  refine X_cVi (as := []) d35 cv_x12_128 ⟨by decide, by decide⟩ rfl (Nat.le_of_ble_eq_true rfl) (T12_signs M a0) (fun r35 M35 _ => ?_)
  refine X_icmp_ge (t := 130) d38 rfl (fun h38 => ?_) (fun h38 => ?_)
  · refine X_inc (lv' := [(2, vi (a2 + (1 : Int32))), (0, vr a0), (1, vr a1), (3, vi a3)]) 2 d130 k_i_1 rfl (by decide) rfl ?_
    refine X_goto (t := 23) d133 rfl ?_
    refine X_sub [1, 2, 0] rfl ?_
    exact hK23 M35 a0 a1 (a2 + (1 : Int32))
  · refine X_aloadn 0 d41 rfl ?_
    refine X_getR d42 fg_x12_41 ?_
    refine X_iloadn 2 d45 rfl ?_
    refine X_iaload d46 ?_
    refine X_if_ne (t := 83) d47 rfl (fun h47 => ?_) (fun h47 => ?_)
    · refine X_aloadn 0 d50 rfl ?_
      refine X_getR d51 fg_x12_44 ?_
      refine X_iloadn 2 d54 rfl ?_
      refine X_iaload d55 ?_
      refine X_iconst k_i_1 d56 ?_
      refine X_icmp_ne (t := 83) d57 rfl (fun h57 => ?_) (fun h57 => ?_)
      · refine X_aloadn 1 d60 rfl ?_
        refine X_aloadn 0 d61 rfl ?_
        refine X_aloadn 0 d62 rfl ?_
        refine X_getR d63 fg_x12_38 ?_
        refine X_iloadn 2 d66 rfl ?_
        refine X_iaload d67 ?_
        refine X_iloadn 3 d68 rfl ?_
        refine X_aloadn 0 d69 rfl ?_
        refine X_iloadn 2 d70 rfl ?_
        refine X_iconst k_i_0 d71 ?_
        refine X_cVi (as := [vi a2, vi (0 : Int32)]) d72 cv_x12_285 ⟨by decide, by decide⟩ rfl (Nat.le_of_ble_eq_true rfl) (T12_nodeOf M35 a0 a2 (0 : Int32)) (fun r72 M72 _ => ?_)
        refine X_cVi (as := [vi (mI M35 (mR M35 a0 24) a2.toNatClampNeg), vi a3, vi r72]) d75 cv_x12_281 ⟨by decide, by decide⟩ rfl (Nat.le_of_ble_eq_true rfl) (T12_cell M72 a0 (mI M35 (mR M35 a0 24) a2.toNatClampNeg) a3 r72) (fun r75 M75 _ => ?_)
        refine X_lconst k_l_0 d78 ?_
        refine X_lastore d79 ?_
        refine X_bM fun M79 _ => ?_
        refine X_goto (t := 124) d80 rfl ?_
        exact (T12_lay_b124 ih) M79 a0 a1 a2 a3
      · exact (T12_lay_b83 (T12_lay_b124 ih)) M35 a0 a1 a2 a3
    · exact (T12_lay_b83 (T12_lay_b124 ih)) M35 a0 a1 a2 a3

theorem dd12_lay_b243 : AllD (ib i12_lay) [(243, .iinc 4 1, 3), (246, .goto (-87), 3)] := allD_of (by decide +kernel)
def f12_lay_b243 (K159 : MM → Nat → Nat → Int32 → Int32 → Int32 → Option MM) (M : MM) (a0 : Nat) (a1 : Nat) (a2 : Int32) (a3 : Int32) (a4 : Int32) : Option MM :=
  K159 M a0 a1 a2 a3 (a4 + (1 : Int32))
set_option maxRecDepth 4000 in
theorem T12_lay_b243 {K159 : MM → Nat → Nat → Int32 → Int32 → Int32 → Option MM} (hK159 : ∀ (M : MM) (a0 : Nat) (a1 : Nat) (a2 : Int32) (a3 : Int32) (a4 : Int32), X Lv i12_lay 159 [(0, vr a0), (1, vr a1), (2, vi a2), (3, vi a3), (4, vi a4)] [] M (K159 M a0 a1 a2 a3 a4)) : ∀ (M : MM) (a0 : Nat) (a1 : Nat) (a2 : Int32) (a3 : Int32) (a4 : Int32), X Lv i12_lay 243 [(0, vr a0), (1, vr a1), (2, vi a2), (3, vi a3), (4, vi a4)] [] M (f12_lay_b243 K159 M a0 a1 a2 a3 a4) := by
  obtain ⟨d243, d246, -⟩ := dd12_lay_b243
  intro M a0 a1 a2 a3 a4
  unfold f12_lay_b243
  refine X_inc (lv' := [(4, vi (a4 + (1 : Int32))), (0, vr a0), (1, vr a1), (2, vi a2), (3, vi a3)]) 4 d243 k_i_1 rfl (by decide) rfl ?_
  refine X_goto (t := 159) d246 rfl ?_
  refine X_sub [1, 2, 3, 4, 0] rfl ?_
  exact hK159 M a0 a1 a2 a3 (a4 + (1 : Int32))

theorem dd12_lay_b249 : AllD (ib i12_lay) [(249, .iinc 3 1, 3), (252, .goto (-106), 3)] := allD_of (by decide +kernel)
def f12_lay_b249 (K146 : MM → Nat → Nat → Int32 → Int32 → Option MM) (M : MM) (a0 : Nat) (a1 : Nat) (a2 : Int32) (a3 : Int32) : Option MM :=
  K146 M a0 a1 a2 (a3 + (1 : Int32))
set_option maxRecDepth 4000 in
theorem T12_lay_b249 {K146 : MM → Nat → Nat → Int32 → Int32 → Option MM} (hK146 : ∀ (M : MM) (a0 : Nat) (a1 : Nat) (a2 : Int32) (a3 : Int32), X Lv i12_lay 146 [(0, vr a0), (1, vr a1), (2, vi a2), (3, vi a3)] [] M (K146 M a0 a1 a2 a3)) : ∀ (M : MM) (a0 : Nat) (a1 : Nat) (a2 : Int32) (a3 : Int32), X Lv i12_lay 249 [(0, vr a0), (1, vr a1), (2, vi a2), (3, vi a3)] [] M (f12_lay_b249 K146 M a0 a1 a2 a3) := by
  obtain ⟨d249, d252, -⟩ := dd12_lay_b249
  intro M a0 a1 a2 a3
  unfold f12_lay_b249
  refine X_inc (lv' := [(3, vi (a3 + (1 : Int32))), (0, vr a0), (1, vr a1), (2, vi a2)]) 3 d249 k_i_1 rfl (by decide) rfl ?_
  refine X_goto (t := 146) d252 rfl ?_
  refine X_sub [1, 2, 3, 0] rfl ?_
  exact hK146 M a0 a1 a2 (a3 + (1 : Int32))

theorem dd12_lay_b159 : AllD (ib i12_lay) [(159, .iload 4, 2), (161, .bipush 21, 2), (163, .if_icmp .ge 86, 3), (166, .aload_n 0, 1), (167, .getfield 131, 3), (170, .iload_n 3, 1), (171, .invokestatic 134, 3), (174, .ifCond .ne 75, 3), (177, .aload_n 0, 1), (178, .aload_n 0, 1), (179, .iload_n 3, 1), (180, .iconst 0, 1), (181, .invokevirtual 138, 3), (184, .aload_n 0, 1), (185, .iload_n 3, 1), (186, .iconst 1, 1), (187, .invokevirtual 138, 3), (190, .iload 4, 2), (192, .invokevirtual 281, 3), (195, .istore 5, 2), (197, .aload_n 1, 1), (198, .iload 5, 2), (200, .laload, 1), (201, .aload_n 0, 1), (202, .iload_n 3, 1), (203, .bipush 6, 2), (205, .invokevirtual 138, 3), (208, .i2l, 1), (209, .aload_n 0, 1), (210, .aload_n 1, 1), (211, .iload_n 3, 1), (212, .iload 4, 2), (214, .invokevirtual 288, 3), (217, .invokestatic 292, 3), (220, .invokestatic 296, 3), (223, .lstore 6, 2), (225, .lload 6, 2), (227, .aload_n 1, 1), (228, .iload 5, 2), (230, .laload, 1), (231, .lcmp, 1), (232, .ifCond .eq 11, 3), (235, .aload_n 1, 1), (236, .iload 5, 2), (238, .lload 6, 2), (240, .lastore, 1), (241, .iconst 1, 1), (242, .istore_n 2, 1)] := allD_of (by decide +kernel)
def f12_lay_b159_body (K146 : MM → Nat → Nat → Int32 → Int32 → Option MM) (rc : MM → Nat → Nat → Int32 → Int32 → Int32 → Option MM) (M : MM) (a0 : Nat) (a1 : Nat) (a2 : Int32) (a3 : Int32) (a4 : Int32) : Option MM :=
  if (21 : Int32) ≤ a4 then
    (f12_lay_b249 K146) M a0 a1 a2 a3
  else
    aO M a0 12 <|
    cI (f12_isOf M (mI M a0 5) a3) fun r171 M171 =>
    if r171 = 0 then
      aO M171 a0 12 <|
      cI (f12_ruleOf M171 a0 a3 (0 : Int32)) fun r181 M181 =>
      aO M181 a0 12 <|
      cI (f12_ruleOf M181 a0 a3 (1 : Int32)) fun r187 M187 =>
      aO M187 a0 12 <|
      cI (f12_cell M187 a0 r181 r187 a4) fun r192 M192 =>
      aA M192 a1 1 r192 <|
      aO M192 a0 12 <|
      cI (f12_ruleOf M192 a0 a3 (6 : Int32)) fun r205 M205 =>
      aO M205 a0 12 <|
      cJ (f12_byRule M205 a0 a1 a3 a4) fun r214 M214 =>
      cJ (f12_sum M214 (r205.toInt64) r214) fun r217 M217 =>
      cJ (f12_lesser M217 (mJ M192 a1 r192.toNatClampNeg) r217) fun r220 M220 =>
      aA M220 a1 1 r192 <|
      if r220 = (mJ M220 a1 r192.toNatClampNeg) then
        (f12_lay_b243 rc) M220 a0 a1 a2 a3 a4
      else
        aA M220 a1 1 r192 <|
        bM (sJ M220 a1 r192.toNatClampNeg r220) fun M240 =>
        (f12_lay_b243 rc) M240 a0 a1 (1 : Int32) a3 a4
    else
      (f12_lay_b249 K146) M171 a0 a1 a2 a3
def f12_lay_b159 (K146 : MM → Nat → Nat → Int32 → Int32 → Option MM) : MM → Nat → Nat → Int32 → Int32 → Int32 → Option MM := LP6 (f12_lay_b159_body K146) FU
set_option maxRecDepth 4000 in
theorem T12_lay_b159 {K146 : MM → Nat → Nat → Int32 → Int32 → Option MM} (hK146 : ∀ (M : MM) (a0 : Nat) (a1 : Nat) (a2 : Int32) (a3 : Int32), X Lv i12_lay 146 [(0, vr a0), (1, vr a1), (2, vi a2), (3, vi a3)] [] M (K146 M a0 a1 a2 a3)) : ∀ (M : MM) (a0 : Nat) (a1 : Nat) (a2 : Int32) (a3 : Int32) (a4 : Int32), X Lv i12_lay 159 [(0, vr a0), (1, vr a1), (2, vi a2), (3, vi a3), (4, vi a4)] [] M (f12_lay_b159 K146 M a0 a1 a2 a3 a4) := by
  obtain ⟨d159, d161, d163, d166, d167, d170, d171, d174, d177, d178, d179, d180, d181, d184, d185, d186, d187, d190, d192, d195, d197, d198, d200, d201, d202, d203, d205, d208, d209, d210, d211, d212, d214, d217, d220, d223, d225, d227, d228, d230, d231, d232, d235, d236, d238, d240, d241, d242, -⟩ := dd12_lay_b159
  refine LP6_i (P := fun M a0 a1 a2 a3 a4 o => X Lv i12_lay 159 [(0, vr a0), (1, vr a1), (2, vi a2), (3, vi a3), (4, vi a4)] [] M o) (fun _ _ _ _ _ _ => X_none) (fun rc ih M a0 a1 a2 a3 a4 => ?_) FU
  unfold f12_lay_b159_body
  refine X_iload 4 d159 rfl ?_
  refine X_bipush k_b_21 d161 ?_
  refine X_icmp_ge (t := 249) d163 rfl (fun h163 => ?_) (fun h163 => ?_)
  · refine X_sub [0, 1, 2, 3] rfl ?_
    exact (T12_lay_b249 hK146) M a0 a1 a2 a3
  · refine X_aloadn 0 d166 rfl ?_
    refine X_getI d167 fg_x12_131 ?_
    refine X_iloadn 3 d170 rfl ?_
    refine X_cSi (as := [vi (mI M a0 5), vi a3]) d171 cs_x12_134 ⟨by decide, by decide⟩ rfl (Nat.le_of_ble_eq_true rfl) (T12_isOf M (mI M a0 5) a3) (fun r171 M171 _ => ?_)
    refine X_if_ne (t := 249) d174 rfl (fun h174 => ?_) (fun h174 => ?_)
    · refine X_aloadn 0 d177 rfl ?_
      refine X_aloadn 0 d178 rfl ?_
      refine X_iloadn 3 d179 rfl ?_
      refine X_iconst k_i_0 d180 ?_
      refine X_cVi (as := [vi a3, vi (0 : Int32)]) d181 cv_x12_138 ⟨by decide, by decide⟩ rfl (Nat.le_of_ble_eq_true rfl) (T12_ruleOf M171 a0 a3 (0 : Int32)) (fun r181 M181 _ => ?_)
      refine X_aloadn 0 d184 rfl ?_
      refine X_iloadn 3 d185 rfl ?_
      refine X_iconst k_i_1 d186 ?_
      refine X_cVi (as := [vi a3, vi (1 : Int32)]) d187 cv_x12_138 ⟨by decide, by decide⟩ rfl (Nat.le_of_ble_eq_true rfl) (T12_ruleOf M181 a0 a3 (1 : Int32)) (fun r187 M187 _ => ?_)
      refine X_iload 4 d190 rfl ?_
      refine X_cVi (as := [vi r181, vi r187, vi a4]) d192 cv_x12_281 ⟨by decide, by decide⟩ rfl (Nat.le_of_ble_eq_true rfl) (T12_cell M187 a0 r181 r187 a4) (fun r192 M192 _ => ?_)
      refine X_istore (lv' := [(5, vi r192), (0, vr a0), (1, vr a1), (2, vi a2), (3, vi a3), (4, vi a4)]) d195 (by decide) rfl ?_
      refine X_aloadn 2 d197 rfl ?_
      refine X_iload 0 d198 rfl ?_
      refine X_laload d200 ?_
      refine X_aloadn 1 d201 rfl ?_
      refine X_iloadn 4 d202 rfl ?_
      refine X_bipush k_b_6 d203 ?_
      refine X_cVi (as := [vi a3, vi (6 : Int32)]) d205 cv_x12_138 ⟨by decide, by decide⟩ rfl (Nat.le_of_ble_eq_true rfl) (T12_ruleOf M192 a0 a3 (6 : Int32)) (fun r205 M205 _ => ?_)
      refine X_i2l d208 ?_
      refine X_aloadn 1 d209 rfl ?_
      refine X_aloadn 2 d210 rfl ?_
      refine X_iloadn 4 d211 rfl ?_
      refine X_iload 5 d212 rfl ?_
      refine X_cVl (as := [vr a1, vi a3, vi a4]) d214 cv_x12_288 ⟨by decide, by decide⟩ rfl (Nat.le_of_ble_eq_true rfl) (T12_byRule M205 a0 a1 a3 a4) (fun r214 M214 _ => ?_)
      refine X_cSl (as := [vl (r205.toInt64), vl r214]) d217 cs_x12_292 ⟨by decide, by decide⟩ rfl (Nat.le_of_ble_eq_true rfl) (T12_sum M214 (r205.toInt64) r214) (fun r217 M217 _ => ?_)
      refine X_cSl (as := [vl (mJ M192 a1 r192.toNatClampNeg), vl r217]) d220 cs_x12_296 ⟨by decide, by decide⟩ rfl (Nat.le_of_ble_eq_true rfl) (T12_lesser M217 (mJ M192 a1 r192.toNatClampNeg) r217) (fun r220 M220 _ => ?_)
      refine X_lstore (lv' := [(6, vl r220), (5, vi r192), (0, vr a0), (1, vr a1), (2, vi a2), (3, vi a3), (4, vi a4)]) d223 (by decide) rfl ?_
      refine X_lload 0 d225 rfl ?_
      refine X_aloadn 3 d227 rfl ?_
      refine X_iload 1 d228 rfl ?_
      refine X_laload d230 ?_
      refine X_lif_eq (t := 243) d231 d232 rfl (fun h231 => ?_) (fun h231 => ?_)
      · refine X_sub [2, 3, 4, 5, 6] rfl ?_
        exact (T12_lay_b243 ih) M220 a0 a1 a2 a3 a4
      · refine X_aloadn 3 d235 rfl ?_
        refine X_iload 1 d236 rfl ?_
        refine X_lload 0 d238 rfl ?_
        refine X_lastore d240 ?_
        refine X_bM fun M240 _ => ?_
        refine X_iconst k_i_1 d241 ?_
        refine X_istoren (lv' := [(2, vi (1 : Int32)), (6, vl r220), (5, vi r192), (0, vr a0), (1, vr a1), (3, vi a3), (4, vi a4)]) d242 (by decide) rfl ?_
        refine X_sub [3, 4, 0, 5, 6] rfl ?_
        exact (T12_lay_b243 ih) M240 a0 a1 (1 : Int32) a3 a4
    · refine X_sub [0, 1, 2, 3] rfl ?_
      exact (T12_lay_b249 hK146) M171 a0 a1 a2 a3

theorem dd12_lay_b146 : AllD (ib i12_lay) [(146, .iload_n 3, 1), (147, .aload_n 0, 1), (148, .getfield 7, 3), (151, .iconst 2, 1), (152, .iaload, 1), (153, .if_icmp .ge 102, 3), (156, .iconst 0, 1), (157, .istore 4, 2), (255, .goto (-117), 3)] := allD_of (by decide +kernel)
def f12_lay_b146_body (K138 : MM → Nat → Nat → Int32 → Option MM) (rc : MM → Nat → Nat → Int32 → Int32 → Option MM) (M : MM) (a0 : Nat) (a1 : Nat) (a2 : Int32) (a3 : Int32) : Option MM :=
  aO M a0 12 <|
  aA M (mR M a0 1) 0 (2 : Int32) <|
  if (mI M (mR M a0 1) (2 : Int32).toNatClampNeg) ≤ a3 then
    K138 M a0 a1 a2
  else
    (f12_lay_b159 rc) M a0 a1 a2 a3 (0 : Int32)
def f12_lay_b146 (K138 : MM → Nat → Nat → Int32 → Option MM) : MM → Nat → Nat → Int32 → Int32 → Option MM := LP5 (f12_lay_b146_body K138) FU
set_option maxRecDepth 4000 in
theorem T12_lay_b146 {K138 : MM → Nat → Nat → Int32 → Option MM} (hK138 : ∀ (M : MM) (a0 : Nat) (a1 : Nat) (a2 : Int32), X Lv i12_lay 138 [(0, vr a0), (1, vr a1), (2, vi a2)] [] M (K138 M a0 a1 a2)) : ∀ (M : MM) (a0 : Nat) (a1 : Nat) (a2 : Int32) (a3 : Int32), X Lv i12_lay 146 [(0, vr a0), (1, vr a1), (2, vi a2), (3, vi a3)] [] M (f12_lay_b146 K138 M a0 a1 a2 a3) := by
  obtain ⟨d146, d147, d148, d151, d152, d153, d156, d157, d255, -⟩ := dd12_lay_b146
  refine LP5_i (P := fun M a0 a1 a2 a3 o => X Lv i12_lay 146 [(0, vr a0), (1, vr a1), (2, vi a2), (3, vi a3)] [] M o) (fun _ _ _ _ _ => X_none) (fun rc ih M a0 a1 a2 a3 => ?_) FU
  unfold f12_lay_b146_body
  refine X_iloadn 3 d146 rfl ?_
  refine X_aloadn 0 d147 rfl ?_
  refine X_getR d148 fg_x12_7 ?_
  refine X_iconst k_i_2 d151 ?_
  refine X_iaload d152 ?_
  refine X_icmp_ge (t := 255) d153 rfl (fun h153 => ?_) (fun h153 => ?_)
  · refine X_goto (t := 138) d255 rfl ?_
    refine X_sub [0, 1, 2] rfl ?_
    exact hK138 M a0 a1 a2
  · refine X_iconst k_i_0 d156 ?_
    refine X_istore (lv' := [(4, vi (0 : Int32)), (0, vr a0), (1, vr a1), (2, vi a2), (3, vi a3)]) d157 (by decide) rfl ?_
    refine X_sub [1, 2, 3, 4, 0] rfl ?_
    exact (T12_lay_b159 ih) M a0 a1 a2 a3 (0 : Int32)

theorem dd12_lay_b138 : AllD (ib i12_lay) [(138, .iload_n 2, 1), (139, .ifCond .eq 119, 3), (142, .iconst 0, 1), (143, .istore_n 2, 1), (144, .iconst 0, 1), (145, .istore_n 3, 1), (258, .return_, 1)] := allD_of (by decide +kernel)
def f12_lay_b138_body (rc : MM → Nat → Nat → Int32 → Option MM) (M : MM) (a0 : Nat) (a1 : Nat) (a2 : Int32) : Option MM :=
  if a2 = 0 then
    some M
  else
    (f12_lay_b146 rc) M a0 a1 (0 : Int32) (0 : Int32)
def f12_lay_b138 : MM → Nat → Nat → Int32 → Option MM := LP4 (f12_lay_b138_body) FU
set_option maxRecDepth 4000 in
theorem T12_lay_b138 : ∀ (M : MM) (a0 : Nat) (a1 : Nat) (a2 : Int32), X Lv i12_lay 138 [(0, vr a0), (1, vr a1), (2, vi a2)] [] M (f12_lay_b138 M a0 a1 a2) := by
  obtain ⟨d138, d139, d142, d143, d144, d145, d258, -⟩ := dd12_lay_b138
  refine LP4_i (P := fun M a0 a1 a2 o => X Lv i12_lay 138 [(0, vr a0), (1, vr a1), (2, vi a2)] [] M o) (fun _ _ _ _ => X_none) (fun rc ih M a0 a1 a2 => ?_) FU
  unfold f12_lay_b138_body
  refine X_iloadn 2 d138 rfl ?_
  refine X_if_eq (t := 258) d139 rfl (fun h139 => ?_) (fun h139 => ?_)
  · exact X_vreturn d258 rfl rfl
  · refine X_iconst k_i_0 d142 ?_
    refine X_istoren (lv' := [(2, vi (0 : Int32)), (0, vr a0), (1, vr a1)]) d143 (by decide) rfl ?_
    refine X_iconst k_i_0 d144 ?_
    refine X_istoren (lv' := [(3, vi (0 : Int32)), (2, vi (0 : Int32)), (0, vr a0), (1, vr a1)]) d145 (by decide) rfl ?_
    refine X_sub [2, 3, 1, 0] rfl ?_
    exact (T12_lay_b146 ih) M a0 a1 (0 : Int32) (0 : Int32)

theorem dd12_lay_b23 : AllD (ib i12_lay) [(23, .iload_n 2, 1), (24, .aload_n 0, 1), (25, .getfield 278, 3), (28, .if_icmp .ge 108, 3), (31, .iconst 0, 1), (32, .istore_n 3, 1), (136, .iconst 1, 1), (137, .istore_n 2, 1)] := allD_of (by decide +kernel)
def f12_lay_b23_body (rc : MM → Nat → Nat → Int32 → Option MM) (M : MM) (a0 : Nat) (a1 : Nat) (a2 : Int32) : Option MM :=
  aO M a0 12 <|
  if (mI M a0 30) ≤ a2 then
    f12_lay_b138 M a0 a1 (1 : Int32)
  else
    (f12_lay_b33 rc) M a0 a1 a2 (0 : Int32)
def f12_lay_b23 : MM → Nat → Nat → Int32 → Option MM := LP4 (f12_lay_b23_body) FU
set_option maxRecDepth 4000 in
theorem T12_lay_b23 : ∀ (M : MM) (a0 : Nat) (a1 : Nat) (a2 : Int32), X Lv i12_lay 23 [(0, vr a0), (1, vr a1), (2, vi a2)] [] M (f12_lay_b23 M a0 a1 a2) := by
  obtain ⟨d23, d24, d25, d28, d31, d32, d136, d137, -⟩ := dd12_lay_b23
  refine LP4_i (P := fun M a0 a1 a2 o => X Lv i12_lay 23 [(0, vr a0), (1, vr a1), (2, vi a2)] [] M o) (fun _ _ _ _ => X_none) (fun rc ih M a0 a1 a2 => ?_) FU
  unfold f12_lay_b23_body
  refine X_iloadn 2 d23 rfl ?_
  refine X_aloadn 0 d24 rfl ?_
  refine X_getI d25 fg_x12_278 ?_
  refine X_icmp_ge (t := 136) d28 rfl (fun h28 => ?_) (fun h28 => ?_)
  · refine X_iconst k_i_1 d136 ?_
    refine X_istoren (lv' := [(2, vi (1 : Int32)), (0, vr a0), (1, vr a1)]) d137 (by decide) rfl ?_
    refine X_sub [1, 2, 0] rfl ?_
    exact T12_lay_b138 M a0 a1 (1 : Int32)
  · refine X_iconst k_i_0 d31 ?_
    refine X_istoren (lv' := [(3, vi (0 : Int32)), (0, vr a0), (1, vr a1), (2, vi a2)]) d32 (by decide) rfl ?_
    refine X_sub [1, 2, 3, 0] rfl ?_
    exact (T12_lay_b33 ih) M a0 a1 a2 (0 : Int32)

theorem dd12_lay_b2 : AllD (ib i12_lay) [(2, .iload_n 2, 1), (3, .sipush 630, 3), (6, .if_icmp .ge 15, 3), (9, .aload_n 1, 1), (10, .iload_n 2, 1), (11, .ldc2_w 116, 3), (14, .lastore, 1), (15, .iinc 2 1, 3), (18, .goto (-16), 3), (21, .iconst 0, 1), (22, .istore_n 2, 1)] := allD_of (by decide +kernel)
def f12_lay_b2_body (rc : MM → Nat → Nat → Int32 → Option MM) (M : MM) (a0 : Nat) (a1 : Nat) (a2 : Int32) : Option MM :=
  if (630 : Int32) ≤ a2 then
    f12_lay_b23 M a0 a1 (0 : Int32)
  else
    aA M a1 1 a2 <|
    bM (sJ M a1 a2.toNatClampNeg (-1 : Int64)) fun M14 =>
    rc M14 a0 a1 (a2 + (1 : Int32))
def f12_lay_b2 : MM → Nat → Nat → Int32 → Option MM := LP4 (f12_lay_b2_body) FU
set_option maxRecDepth 4000 in
theorem T12_lay_b2 : ∀ (M : MM) (a0 : Nat) (a1 : Nat) (a2 : Int32), X Lv i12_lay 2 [(0, vr a0), (1, vr a1), (2, vi a2)] [] M (f12_lay_b2 M a0 a1 a2) := by
  obtain ⟨d2, d3, d6, d9, d10, d11, d14, d15, d18, d21, d22, -⟩ := dd12_lay_b2
  refine LP4_i (P := fun M a0 a1 a2 o => X Lv i12_lay 2 [(0, vr a0), (1, vr a1), (2, vi a2)] [] M o) (fun _ _ _ _ => X_none) (fun rc ih M a0 a1 a2 => ?_) FU
  unfold f12_lay_b2_body
  refine X_iloadn 2 d2 rfl ?_
  refine X_sipush k_s_630 d3 ?_
  refine X_icmp_ge (t := 21) d6 rfl (fun h6 => ?_) (fun h6 => ?_)
  · refine X_iconst k_i_0 d21 ?_
    refine X_istoren (lv' := [(2, vi (0 : Int32)), (0, vr a0), (1, vr a1)]) d22 (by decide) rfl ?_
    refine X_sub [1, 2, 0] rfl ?_
    exact T12_lay_b23 M a0 a1 (0 : Int32)
  · refine X_aloadn 1 d9 rfl ?_
    refine X_iloadn 2 d10 rfl ?_
    refine X_ldc2 kc_x12_116 d11 ?_
    refine X_lastore d14 ?_
    refine X_bM fun M14 _ => ?_
    refine X_inc (lv' := [(2, vi (a2 + (1 : Int32))), (0, vr a0), (1, vr a1)]) 2 d15 k_i_1 rfl (by decide) rfl ?_
    refine X_goto (t := 2) d18 rfl ?_
    refine X_sub [1, 2, 0] rfl ?_
    exact ih M14 a0 a1 (a2 + (1 : Int32))

theorem dd12_lay : AllD (ib i12_lay) [(0, .iconst 0, 1), (1, .istore_n 2, 1)] := allD_of (by decide +kernel)
def f12_lay (M : MM) (a0 : Nat) (a1 : Nat) : Option MM :=
  f12_lay_b2 M a0 a1 (0 : Int32)
set_option maxRecDepth 4000 in
theorem T12_lay (M : MM) (a0 : Nat) (a1 : Nat) : ∀ q, f12_lay M a0 a1 = some q → Run i12_lay [vr a0, vr a1] M (Lv q) := by
  obtain ⟨d0, d1, -⟩ := dd12_lay
  refine Run_of_X (by decide) (Nat.le_of_ble_eq_true rfl) ?_
  show X Lv i12_lay 0 [(0, vr a0), (1, vr a1)] [] M _
  unfold f12_lay
  refine X_iconst k_i_0 d0 ?_
  refine X_istoren (lv' := [(2, vi (0 : Int32)), (0, vr a0), (1, vr a1)]) d1 (by decide) rfl ?_
  refine X_sub [1, 2, 0] rfl ?_
  exact T12_lay_b2 M a0 a1 (0 : Int32)

theorem dd12_isEnd_b70 : AllD (ib i12_isEnd) [(70, .iinc 2 1, 3), (73, .goto (-32), 3)] := allD_of (by decide +kernel)
def f12_isEnd_b70 (K41 : MM → Nat → Int32 → Int32 → Option (Int32 × MM)) (M : MM) (a0 : Nat) (a1 : Int32) (a2 : Int32) : Option (Int32 × MM) :=
  K41 M a0 a1 (a2 + (1 : Int32))
set_option maxRecDepth 4000 in
theorem T12_isEnd_b70 {K41 : MM → Nat → Int32 → Int32 → Option (Int32 × MM)} (hK41 : ∀ (M : MM) (a0 : Nat) (a1 : Int32) (a2 : Int32), X Li i12_isEnd 41 [(0, vr a0), (1, vi a1), (2, vi a2)] [] M (K41 M a0 a1 a2)) : ∀ (M : MM) (a0 : Nat) (a1 : Int32) (a2 : Int32), X Li i12_isEnd 70 [(0, vr a0), (1, vi a1), (2, vi a2)] [] M (f12_isEnd_b70 K41 M a0 a1 a2) := by
  obtain ⟨d70, d73, -⟩ := dd12_isEnd_b70
  intro M a0 a1 a2
  unfold f12_isEnd_b70
  refine X_inc (lv' := [(2, vi (a2 + (1 : Int32))), (0, vr a0), (1, vi a1)]) 2 d70 k_i_1 rfl (by decide) rfl ?_
  refine X_goto (t := 41) d73 rfl ?_
  refine X_sub [1, 2, 0] rfl ?_
  exact hK41 M a0 a1 (a2 + (1 : Int32))

theorem dd12_isEnd_b41 : AllD (ib i12_isEnd) [(41, .iload_n 2, 1), (42, .aload_n 0, 1), (43, .getfield 278, 3), (46, .if_icmp .ge 30, 3), (49, .aload_n 0, 1), (50, .getfield 38, 3), (53, .iload_n 2, 1), (54, .iaload, 1), (55, .iload_n 1, 1), (56, .if_icmp .ne 14, 3), (59, .aload_n 0, 1), (60, .getfield 41, 3), (63, .iload_n 2, 1), (64, .iaload, 1), (65, .ifCond .ne 5, 3), (68, .iconst 1, 1), (69, .ireturn, 1), (76, .iconst 0, 1), (77, .ireturn, 1)] := allD_of (by decide +kernel)
def f12_isEnd_b41_body (rc : MM → Nat → Int32 → Int32 → Option (Int32 × MM)) (M : MM) (a0 : Nat) (a1 : Int32) (a2 : Int32) : Option (Int32 × MM) :=
  aO M a0 12 <|
  if (mI M a0 30) ≤ a2 then
    some ((0 : Int32), M)
  else
    aO M a0 12 <|
    aA M (mR M a0 24) 0 a2 <|
    if (mI M (mR M a0 24) a2.toNatClampNeg) = a1 then
      aO M a0 12 <|
      aA M (mR M a0 25) 0 a2 <|
      if (mI M (mR M a0 25) a2.toNatClampNeg) = 0 then
        some ((1 : Int32), M)
      else
        (f12_isEnd_b70 rc) M a0 a1 a2
    else
      (f12_isEnd_b70 rc) M a0 a1 a2
def f12_isEnd_b41 : MM → Nat → Int32 → Int32 → Option (Int32 × MM) := LP4 (f12_isEnd_b41_body) FU
set_option maxRecDepth 4000 in
theorem T12_isEnd_b41 : ∀ (M : MM) (a0 : Nat) (a1 : Int32) (a2 : Int32), X Li i12_isEnd 41 [(0, vr a0), (1, vi a1), (2, vi a2)] [] M (f12_isEnd_b41 M a0 a1 a2) := by
  obtain ⟨d41, d42, d43, d46, d49, d50, d53, d54, d55, d56, d59, d60, d63, d64, d65, d68, d69, d76, d77, -⟩ := dd12_isEnd_b41
  refine LP4_i (P := fun M a0 a1 a2 o => X Li i12_isEnd 41 [(0, vr a0), (1, vi a1), (2, vi a2)] [] M o) (fun _ _ _ _ => X_none) (fun rc ih M a0 a1 a2 => ?_) FU
  unfold f12_isEnd_b41_body
  refine X_iloadn 2 d41 rfl ?_
  refine X_aloadn 0 d42 rfl ?_
  refine X_getI d43 fg_x12_278 ?_
  refine X_icmp_ge (t := 76) d46 rfl (fun h46 => ?_) (fun h46 => ?_)
  · refine X_iconst k_i_0 d76 ?_
    exact X_zreturnc d77 rfl (by decide) rfl
  · refine X_aloadn 0 d49 rfl ?_
    refine X_getR d50 fg_x12_38 ?_
    refine X_iloadn 2 d53 rfl ?_
    refine X_iaload d54 ?_
    refine X_iloadn 1 d55 rfl ?_
    refine X_icmp_ne (t := 70) d56 rfl (fun h56 => ?_) (fun h56 => ?_)
    · refine X_aloadn 0 d59 rfl ?_
      refine X_getR d60 fg_x12_41 ?_
      refine X_iloadn 2 d63 rfl ?_
      refine X_iaload d64 ?_
      refine X_if_ne (t := 70) d65 rfl (fun h65 => ?_) (fun h65 => ?_)
      · refine X_iconst k_i_1 d68 ?_
        exact X_zreturnc d69 rfl (by decide) rfl
      · exact (T12_isEnd_b70 ih) M a0 a1 a2
    · exact (T12_isEnd_b70 ih) M a0 a1 a2

theorem dd12_isEnd : AllD (ib i12_isEnd) [(0, .iload_n 1, 1), (1, .iconst 5, 1), (2, .if_icmp .lt 37, 3), (5, .iload_n 1, 1), (6, .iconst 5, 1), (7, .isub, 1), (8, .iconst 4, 1), (9, .idiv, 1), (10, .istore_n 2, 1), (11, .iload_n 2, 1), (12, .aload_n 0, 1), (13, .getfield 278, 3), (16, .if_icmp .ge 21, 3), (19, .iload_n 1, 1), (20, .iconst 5, 1), (21, .isub, 1), (22, .iconst 4, 1), (23, .irem, 1), (24, .aload_n 0, 1), (25, .getfield 41, 3), (28, .iload_n 2, 1), (29, .iaload, 1), (30, .if_icmp .ne 7, 3), (33, .iconst 1, 1), (34, .goto 4, 3), (37, .iconst 0, 1), (38, .ireturn, 1), (39, .iconst 0, 1), (40, .istore_n 2, 1)] := allD_of (by decide +kernel)
def f12_isEnd (M : MM) (a0 : Nat) (a1 : Int32) : Option (Int32 × MM) :=
  if a1 < (5 : Int32) then
    f12_isEnd_b41 M a0 a1 (0 : Int32)
  else
    gd (¬ (4 : Int32) = 0) <|
    bW ((a1 - (5 : Int32)) / (4 : Int32)) fun v10 =>
    aO M a0 12 <|
    if (mI M a0 30) ≤ v10 then
      some ((0 : Int32), M)
    else
      gd (¬ (4 : Int32) = 0) <|
      aO M a0 12 <|
      aA M (mR M a0 25) 0 v10 <|
      if ((a1 - (5 : Int32)) - (a1 - (5 : Int32)) / (4 : Int32) * (4 : Int32)) = (mI M (mR M a0 25) v10.toNatClampNeg) then
        some ((1 : Int32), M)
      else
        some ((0 : Int32), M)
set_option maxRecDepth 4000 in
theorem T12_isEnd (M : MM) (a0 : Nat) (a1 : Int32) : ∀ q, f12_isEnd M a0 a1 = some q → Run i12_isEnd [vr a0, vi a1] M (Li q) := by
  obtain ⟨d0, d1, d2, d5, d6, d7, d8, d9, d10, d11, d12, d13, d16, d19, d20, d21, d22, d23, d24, d25, d28, d29, d30, d33, d34, d37, d38, d39, d40, -⟩ := dd12_isEnd
  refine Run_of_X (by decide) (Nat.le_of_ble_eq_true rfl) ?_
  show X Li i12_isEnd 0 [(0, vr a0), (1, vi a1)] [] M _
  unfold f12_isEnd
  refine X_iloadn 1 d0 rfl ?_
  refine X_iconst k_i_5 d1 ?_
  refine X_icmp_lt (t := 39) d2 rfl (fun h2 => ?_) (fun h2 => ?_)
  · refine X_iconst k_i_0 d39 ?_
    refine X_istoren (lv' := [(2, vi (0 : Int32)), (0, vr a0), (1, vi a1)]) d40 (by decide) rfl ?_
    refine X_sub [1, 2, 0] rfl ?_
    exact T12_isEnd_b41 M a0 a1 (0 : Int32)
  · refine X_iloadn 1 d5 rfl ?_
    refine X_iconst k_i_5 d6 ?_
    refine X_isub d7 ?_
    refine X_iconst k_i_4 d8 ?_
    refine X_idiv d9 ?_
    refine X_bWi fun v10 _ => ?_
    refine X_istoren (lv' := [(2, vi v10), (0, vr a0), (1, vi a1)]) d10 (by decide) rfl ?_
    refine X_iloadn 0 d11 rfl ?_
    refine X_aloadn 1 d12 rfl ?_
    refine X_getI d13 fg_x12_278 ?_
    refine X_icmp_ge (t := 37) d16 rfl (fun h16 => ?_) (fun h16 => ?_)
    · refine X_iconst k_i_0 d37 ?_
      exact X_zreturnc d38 rfl (by decide) rfl
    · refine X_iloadn 2 d19 rfl ?_
      refine X_iconst k_i_5 d20 ?_
      refine X_isub d21 ?_
      refine X_iconst k_i_4 d22 ?_
      refine X_irem d23 ?_
      refine X_aloadn 1 d24 rfl ?_
      refine X_getR d25 fg_x12_41 ?_
      refine X_iloadn 0 d28 rfl ?_
      refine X_iaload d29 ?_
      refine X_icmp_ne (t := 37) d30 rfl (fun h30 => ?_) (fun h30 => ?_)
      · refine X_iconst k_i_1 d33 ?_
        refine X_goto (t := 38) d34 rfl ?_
        exact X_zreturnc d38 rfl (by decide) rfl
      · refine X_iconst k_i_0 d37 ?_
        exact X_zreturnc d38 rfl (by decide) rfl

theorem dd12_layAbove_b61 : AllD (ib i12_layAbove) [(61, .lstore 7, 2), (63, .aload_n 0, 1), (64, .getfield 57, 3), (67, .bipush 21, 2), (69, .iload 5, 2), (71, .imul, 1), (72, .iload 6, 2), (74, .iadd, 1), (75, .lload 7, 2), (77, .lastore, 1), (78, .iinc 6 1, 3), (81, .goto (-68), 3)] := allD_of (by decide +kernel)
def f12_layAbove_b61 (K13 : MM → Nat → Nat → Nat → Int32 → Int32 → Int32 → Option MM) (M : MM) (a0 : Nat) (a1 : Nat) (a2 : Nat) (a4 : Int32) (a5 : Int32) (a6 : Int32) (s0 : Int64) : Option MM :=
  aO M a0 12 <|
  aA M (mR M a0 32) 1 (((21 : Int32) * a5) + a6) <|
  bM (sJ M (mR M a0 32) (((21 : Int32) * a5) + a6).toNatClampNeg s0) fun M77 =>
  K13 M77 a0 a1 a2 a4 a5 (a6 + (1 : Int32))
set_option maxRecDepth 4000 in
theorem T12_layAbove_b61 {K13 : MM → Nat → Nat → Nat → Int32 → Int32 → Int32 → Option MM} (hK13 : ∀ (M : MM) (a0 : Nat) (a1 : Nat) (a2 : Nat) (a4 : Int32) (a5 : Int32) (a6 : Int32), X Lv i12_layAbove 13 [(0, vr a0), (1, vr a1), (2, vr a2), (4, vi a4), (5, vi a5), (6, vi a6)] [] M (K13 M a0 a1 a2 a4 a5 a6)) : ∀ (M : MM) (a0 : Nat) (a1 : Nat) (a2 : Nat) (a4 : Int32) (a5 : Int32) (a6 : Int32) (s0 : Int64), X Lv i12_layAbove 61 [(0, vr a0), (1, vr a1), (2, vr a2), (4, vi a4), (5, vi a5), (6, vi a6)] [vl s0] M (f12_layAbove_b61 K13 M a0 a1 a2 a4 a5 a6 s0) := by
  obtain ⟨d61, d63, d64, d67, d69, d71, d72, d74, d75, d77, d78, d81, -⟩ := dd12_layAbove_b61
  intro M a0 a1 a2 a4 a5 a6 s0
  unfold f12_layAbove_b61
  refine X_lstore (lv' := [(7, vl s0), (0, vr a0), (1, vr a1), (2, vr a2), (4, vi a4), (5, vi a5), (6, vi a6)]) d61 (by decide) rfl ?_
  refine X_aloadn 1 d63 rfl ?_
  refine X_getR d64 fg_x12_57 ?_
  refine X_bipush k_b_21 d67 ?_
  refine X_iload 5 d69 rfl ?_
  refine X_imul d71 ?_
  refine X_iload 6 d72 rfl ?_
  refine X_iadd d74 ?_
  refine X_lload 0 d75 rfl ?_
  refine X_lastore d77 ?_
  refine X_bM fun M77 _ => ?_
  refine X_inc (lv' := [(6, vi (a6 + (1 : Int32))), (7, vl s0), (0, vr a0), (1, vr a1), (2, vr a2), (4, vi a4), (5, vi a5)]) 6 d78 k_i_1 rfl (by decide) rfl ?_
  refine X_goto (t := 13) d81 rfl ?_
  refine X_sub [2, 3, 4, 5, 6, 0] rfl ?_
  exact hK13 M77 a0 a1 a2 a4 a5 (a6 + (1 : Int32))

theorem dd12_layAbove_b13 : AllD (ib i12_layAbove) [(13, .iload 6, 2), (15, .bipush 21, 2), (17, .if_icmp .ge 67, 3), (20, .iload 5, 2), (22, .ifCond .ne 22, 3), (25, .aload_n 0, 1), (26, .iload 6, 2), (28, .invokevirtual 316, 3), (31, .ifCond .eq 7, 3), (34, .lconst 0, 1), (35, .goto 26, 3), (38, .ldc2_w 116, 3), (41, .goto 20, 3), (44, .aload_n 0, 1), (45, .aload_n 1, 1), (46, .iload 6, 2), (48, .aload_n 2, 1), (49, .iload 5, 2), (51, .iconst 1, 1), (52, .isub, 1), (53, .iaload, 1), (54, .iload 5, 2), (56, .iconst 1, 1), (57, .isub, 1), (58, .invokevirtual 319, 3), (84, .iinc 5 1, 3), (87, .goto (-84), 3)] := allD_of (by decide +kernel)
def f12_layAbove_b13_body (K3 : MM → Nat → Nat → Nat → Int32 → Int32 → Option MM) (rc : MM → Nat → Nat → Nat → Int32 → Int32 → Int32 → Option MM) (M : MM) (a0 : Nat) (a1 : Nat) (a2 : Nat) (a4 : Int32) (a5 : Int32) (a6 : Int32) : Option MM :=
  if (21 : Int32) ≤ a6 then
    K3 M a0 a1 a2 a4 (a5 + (1 : Int32))
  else
    if a5 = 0 then
      aO M a0 12 <|
      cI (f12_isEnd M a0 a6) fun r28 M28 =>
      if r28 = 0 then
        (f12_layAbove_b61 rc) M28 a0 a1 a2 a4 a5 a6 (-1 : Int64)
      else
        (f12_layAbove_b61 rc) M28 a0 a1 a2 a4 a5 a6 (0 : Int64)
    else
      aA M a2 0 (a5 - (1 : Int32)) <|
      aO M a0 12 <|
      cJ (f12_aboveBy M a0 a1 a6 (mI M a2 (a5 - (1 : Int32)).toNatClampNeg) (a5 - (1 : Int32))) fun r58 M58 =>
      (f12_layAbove_b61 rc) M58 a0 a1 a2 a4 a5 a6 r58
def f12_layAbove_b13 (K3 : MM → Nat → Nat → Nat → Int32 → Int32 → Option MM) : MM → Nat → Nat → Nat → Int32 → Int32 → Int32 → Option MM := LP7 (f12_layAbove_b13_body K3) FU
set_option maxRecDepth 4000 in
theorem T12_layAbove_b13 {K3 : MM → Nat → Nat → Nat → Int32 → Int32 → Option MM} (hK3 : ∀ (M : MM) (a0 : Nat) (a1 : Nat) (a2 : Nat) (a4 : Int32) (a5 : Int32), X Lv i12_layAbove 3 [(0, vr a0), (1, vr a1), (2, vr a2), (4, vi a4), (5, vi a5)] [] M (K3 M a0 a1 a2 a4 a5)) : ∀ (M : MM) (a0 : Nat) (a1 : Nat) (a2 : Nat) (a4 : Int32) (a5 : Int32) (a6 : Int32), X Lv i12_layAbove 13 [(0, vr a0), (1, vr a1), (2, vr a2), (4, vi a4), (5, vi a5), (6, vi a6)] [] M (f12_layAbove_b13 K3 M a0 a1 a2 a4 a5 a6) := by
  obtain ⟨d13, d15, d17, d20, d22, d25, d26, d28, d31, d34, d35, d38, d41, d44, d45, d46, d48, d49, d51, d52, d53, d54, d56, d57, d58, d84, d87, -⟩ := dd12_layAbove_b13
  refine LP7_i (P := fun M a0 a1 a2 a4 a5 a6 o => X Lv i12_layAbove 13 [(0, vr a0), (1, vr a1), (2, vr a2), (4, vi a4), (5, vi a5), (6, vi a6)] [] M o) (fun _ _ _ _ _ _ _ => X_none) (fun rc ih M a0 a1 a2 a4 a5 a6 => ?_) FU
  unfold f12_layAbove_b13_body
  refine X_iload 5 d13 rfl ?_
  refine X_bipush k_b_21 d15 ?_
  refine X_icmp_ge (t := 84) d17 rfl (fun h17 => ?_) (fun h17 => ?_)
  · refine X_inc (lv' := [(5, vi (a5 + (1 : Int32))), (0, vr a0), (1, vr a1), (2, vr a2), (4, vi a4), (6, vi a6)]) 4 d84 k_i_1 rfl (by decide) rfl ?_
    refine X_goto (t := 3) d87 rfl ?_
    refine X_sub [1, 2, 3, 4, 0] rfl ?_
    exact hK3 M a0 a1 a2 a4 (a5 + (1 : Int32))
  · refine X_iload 4 d20 rfl ?_
    refine X_if_ne (t := 44) d22 rfl (fun h22 => ?_) (fun h22 => ?_)
    · refine X_aloadn 0 d25 rfl ?_
      refine X_iload 5 d26 rfl ?_
      refine X_cVi (as := [vi a6]) d28 cv_x12_316 ⟨by decide, by decide⟩ rfl (Nat.le_of_ble_eq_true rfl) (T12_isEnd M a0 a6) (fun r28 M28 _ => ?_)
      refine X_if_eq (t := 38) d31 rfl (fun h31 => ?_) (fun h31 => ?_)
      · refine X_ldc2 kc_x12_116 d38 ?_
        refine X_goto (t := 61) d41 rfl ?_
        exact (T12_layAbove_b61 ih) M28 a0 a1 a2 a4 a5 a6 (-1 : Int64)
      · refine X_lconst k_l_0 d34 ?_
        refine X_goto (t := 61) d35 rfl ?_
        exact (T12_layAbove_b61 ih) M28 a0 a1 a2 a4 a5 a6 (0 : Int64)
    · refine X_aloadn 0 d44 rfl ?_
      refine X_aloadn 1 d45 rfl ?_
      refine X_iload 5 d46 rfl ?_
      refine X_aloadn 2 d48 rfl ?_
      refine X_iload 4 d49 rfl ?_
      refine X_iconst k_i_1 d51 ?_
      refine X_isub d52 ?_
      refine X_iaload d53 ?_
      refine X_iload 4 d54 rfl ?_
      refine X_iconst k_i_1 d56 ?_
      refine X_isub d57 ?_
      refine X_cVl (as := [vr a1, vi a6, vi (mI M a2 (a5 - (1 : Int32)).toNatClampNeg), vi (a5 - (1 : Int32))]) d58 cv_x12_319 ⟨by decide, by decide⟩ rfl (Nat.le_of_ble_eq_true rfl) (T12_aboveBy M a0 a1 a6 (mI M a2 (a5 - (1 : Int32)).toNatClampNeg) (a5 - (1 : Int32))) (fun r58 M58 _ => ?_)
      exact (T12_layAbove_b61 ih) M58 a0 a1 a2 a4 a5 a6 r58

theorem dd12_layAbove_b3 : AllD (ib i12_layAbove) [(3, .iload 5, 2), (5, .iload 4, 2), (7, .if_icmp .gt 83, 3), (10, .iconst 0, 1), (11, .istore 6, 2), (90, .return_, 1)] := allD_of (by decide +kernel)
def f12_layAbove_b3_body (rc : MM → Nat → Nat → Nat → Int32 → Int32 → Option MM) (M : MM) (a0 : Nat) (a1 : Nat) (a2 : Nat) (a4 : Int32) (a5 : Int32) : Option MM :=
  if a4 < a5 then
    some M
  else
    (f12_layAbove_b13 rc) M a0 a1 a2 a4 a5 (0 : Int32)
def f12_layAbove_b3 : MM → Nat → Nat → Nat → Int32 → Int32 → Option MM := LP6 (f12_layAbove_b3_body) FU
set_option maxRecDepth 4000 in
theorem T12_layAbove_b3 : ∀ (M : MM) (a0 : Nat) (a1 : Nat) (a2 : Nat) (a4 : Int32) (a5 : Int32), X Lv i12_layAbove 3 [(0, vr a0), (1, vr a1), (2, vr a2), (4, vi a4), (5, vi a5)] [] M (f12_layAbove_b3 M a0 a1 a2 a4 a5) := by
  obtain ⟨d3, d5, d7, d10, d11, d90, -⟩ := dd12_layAbove_b3
  refine LP6_i (P := fun M a0 a1 a2 a4 a5 o => X Lv i12_layAbove 3 [(0, vr a0), (1, vr a1), (2, vr a2), (4, vi a4), (5, vi a5)] [] M o) (fun _ _ _ _ _ _ => X_none) (fun rc ih M a0 a1 a2 a4 a5 => ?_) FU
  unfold f12_layAbove_b3_body
  refine X_iload 4 d3 rfl ?_
  refine X_iload 3 d5 rfl ?_
  refine X_icmp_gt (t := 90) d7 rfl (fun h7 => ?_) (fun h7 => ?_)
  · exact X_vreturn d90 rfl rfl
  · refine X_iconst k_i_0 d10 ?_
    refine X_istore (lv' := [(6, vi (0 : Int32)), (0, vr a0), (1, vr a1), (2, vr a2), (4, vi a4), (5, vi a5)]) d11 (by decide) rfl ?_
    refine X_sub [1, 2, 3, 4, 5, 0] rfl ?_
    exact (T12_layAbove_b13 ih) M a0 a1 a2 a4 a5 (0 : Int32)

theorem dd12_layAbove : AllD (ib i12_layAbove) [(0, .iload_n 3, 1), (1, .istore 5, 2)] := allD_of (by decide +kernel)
def f12_layAbove (M : MM) (a0 : Nat) (a1 : Nat) (a2 : Nat) (a3 : Int32) (a4 : Int32) : Option MM :=
  f12_layAbove_b3 M a0 a1 a2 a4 a3
set_option maxRecDepth 4000 in
theorem T12_layAbove (M : MM) (a0 : Nat) (a1 : Nat) (a2 : Nat) (a3 : Int32) (a4 : Int32) : ∀ q, f12_layAbove M a0 a1 a2 a3 a4 = some q → Run i12_layAbove [vr a0, vr a1, vr a2, vi a3, vi a4] M (Lv q) := by
  obtain ⟨d0, d1, -⟩ := dd12_layAbove
  refine Run_of_X (by decide) (Nat.le_of_ble_eq_true rfl) ?_
  show X Lv i12_layAbove 0 [(0, vr a0), (1, vr a1), (2, vr a2), (3, vi a3), (4, vi a4)] [] M _
  unfold f12_layAbove
  refine X_iloadn 3 d0 rfl ?_
  refine X_istore (lv' := [(5, vi a3), (0, vr a0), (1, vr a1), (2, vr a2), (3, vi a3), (4, vi a4)]) d1 (by decide) rfl ?_
  refine X_sub [1, 2, 3, 5, 0] rfl ?_
  exact T12_layAbove_b3 M a0 a1 a2 a4 a3

theorem dd12_costNow : AllD (ib i12_costNow) [(0, .aload_n 0, 1), (1, .aload_n 1, 1), (2, .aload_n 0, 1), (3, .getfield 29, 3), (6, .iconst 0, 1), (7, .aload_n 0, 1), (8, .getfield 255, 3), (11, .invokevirtual 322, 3), (14, .aload_n 0, 1), (15, .getfield 57, 3), (18, .bipush 21, 2), (20, .aload_n 0, 1), (21, .getfield 255, 3), (24, .imul, 1), (25, .aload_n 0, 1), (26, .getfield 252, 3), (29, .iadd, 1), (30, .laload, 1), (31, .lreturn, 1)] := allD_of (by decide +kernel)
def f12_costNow (M : MM) (a0 : Nat) (a1 : Nat) : Option (Int64 × MM) :=
  aO M a0 12 <|
  aO M a0 12 <|
  aO M a0 12 <|
  cV (f12_layAbove M a0 a1 (mR M a0 17) (0 : Int32) (mI M a0 21)) fun M11 =>
  aO M11 a0 12 <|
  aO M11 a0 12 <|
  aO M11 a0 12 <|
  aA M11 (mR M11 a0 32) 1 (((21 : Int32) * (mI M11 a0 21)) + (mI M11 a0 20)) <|
  some (mJ M11 (mR M11 a0 32) (((21 : Int32) * (mI M11 a0 21)) + (mI M11 a0 20)).toNatClampNeg, M11)
set_option maxRecDepth 4000 in
theorem T12_costNow (M : MM) (a0 : Nat) (a1 : Nat) : ∀ q, f12_costNow M a0 a1 = some q → Run i12_costNow [vr a0, vr a1] M (Ll q) := by
  obtain ⟨d0, d1, d2, d3, d6, d7, d8, d11, d14, d15, d18, d20, d21, d24, d25, d26, d29, d30, d31, -⟩ := dd12_costNow
  refine Run_of_X (by decide) (Nat.le_of_ble_eq_true rfl) ?_
  show X Ll i12_costNow 0 [(0, vr a0), (1, vr a1)] [] M _
  unfold f12_costNow
  refine X_aloadn 0 d0 rfl ?_
  refine X_aloadn 1 d1 rfl ?_
  refine X_aloadn 0 d2 rfl ?_
  refine X_getR d3 fg_x12_29 ?_
  refine X_iconst k_i_0 d6 ?_
  refine X_aloadn 0 d7 rfl ?_
  refine X_getI d8 fg_x12_255 ?_
  refine X_cVv (as := [vr a1, vr (mR M a0 17), vi (0 : Int32), vi (mI M a0 21)]) d11 cv_x12_322 ⟨by decide, by decide⟩ rfl (Nat.le_of_ble_eq_true rfl) (T12_layAbove M a0 a1 (mR M a0 17) (0 : Int32) (mI M a0 21)) (fun M11 _ => ?_)
  refine X_aloadn 0 d14 rfl ?_
  refine X_getR d15 fg_x12_57 ?_
  refine X_bipush k_b_21 d18 ?_
  refine X_aloadn 0 d20 rfl ?_
  refine X_getI d21 fg_x12_255 ?_
  refine X_imul d24 ?_
  refine X_aloadn 0 d25 rfl ?_
  refine X_getI d26 fg_x12_252 ?_
  refine X_iadd d29 ?_
  refine X_laload d30 ?_
  exact X_lreturn d31 rfl rfl

theorem dd12_comesTo : AllD (ib i12_comesTo) [(0, .aload_n 0, 1), (1, .iload_n 1, 1), (2, .iload_n 2, 1), (3, .invokevirtual 361, 3), (6, .aload_n 0, 1), (7, .aload_n 0, 1), (8, .getfield 54, 3), (11, .invokevirtual 312, 3), (14, .aload_n 0, 1), (15, .aload_n 0, 1), (16, .getfield 54, 3), (19, .invokevirtual 329, 3), (22, .lreturn, 1)] := allD_of (by decide +kernel)
def f12_comesTo (M : MM) (a0 : Nat) (a1 : Int32) (a2 : Int32) : Option (Int64 × MM) :=
  aO M a0 12 <|
  cV (f12_targetIs M a0 a1 a2) fun M3 =>
  aO M3 a0 12 <|
  aO M3 a0 12 <|
  cV (f12_lay M3 a0 (mR M3 a0 29)) fun M11 =>
  aO M11 a0 12 <|
  aO M11 a0 12 <|
  cJ (f12_costNow M11 a0 (mR M11 a0 29)) fun r19 M19 =>
  some (r19, M19)
set_option maxRecDepth 4000 in
theorem T12_comesTo (M : MM) (a0 : Nat) (a1 : Int32) (a2 : Int32) : ∀ q, f12_comesTo M a0 a1 a2 = some q → Run i12_comesTo [vr a0, vi a1, vi a2] M (Ll q) := by
  obtain ⟨d0, d1, d2, d3, d6, d7, d8, d11, d14, d15, d16, d19, d22, -⟩ := dd12_comesTo
  refine Run_of_X (by decide) (Nat.le_of_ble_eq_true rfl) ?_
  show X Ll i12_comesTo 0 [(0, vr a0), (1, vi a1), (2, vi a2)] [] M _
  unfold f12_comesTo
  refine X_aloadn 0 d0 rfl ?_
  refine X_iloadn 1 d1 rfl ?_
  refine X_iloadn 2 d2 rfl ?_
  refine X_cVv (as := [vi a1, vi a2]) d3 cv_x12_361 ⟨by decide, by decide⟩ rfl (Nat.le_of_ble_eq_true rfl) (T12_targetIs M a0 a1 a2) (fun M3 _ => ?_)
  refine X_aloadn 0 d6 rfl ?_
  refine X_aloadn 0 d7 rfl ?_
  refine X_getR d8 fg_x12_54 ?_
  refine X_cVv (as := [vr (mR M3 a0 29)]) d11 cv_x12_312 ⟨by decide, by decide⟩ rfl (Nat.le_of_ble_eq_true rfl) (T12_lay M3 a0 (mR M3 a0 29)) (fun M11 _ => ?_)
  refine X_aloadn 0 d14 rfl ?_
  refine X_aloadn 0 d15 rfl ?_
  refine X_getR d16 fg_x12_54 ?_
  refine X_cVl (as := [vr (mR M11 a0 29)]) d19 cv_x12_329 ⟨by decide, by decide⟩ rfl (Nat.le_of_ble_eq_true rfl) (T12_costNow M11 a0 (mR M11 a0 29)) (fun r19 M19 _ => ?_)
  exact X_lreturn d22 rfl rfl

theorem dd12_comes_b33 : AllD (ib i12_comes) [(33, .aload_n 0, 1), (34, .iload_n 1, 1), (35, .iload_n 2, 1), (36, .invokevirtual 365, 3), (39, .goto 6, 3), (45, .lreturn, 1)] := allD_of (by decide +kernel)
def f12_comes_b33 (M : MM) (a0 : Nat) (a1 : Int32) (a2 : Int32) : Option (Int64 × MM) :=
  aO M a0 12 <|
  cJ (f12_comesTo M a0 a1 a2) fun r36 M36 =>
  some (r36, M36)
set_option maxRecDepth 4000 in
theorem T12_comes_b33 : ∀ (M : MM) (a0 : Nat) (a1 : Int32) (a2 : Int32), X Ll i12_comes 33 [(0, vr a0), (1, vi a1), (2, vi a2)] [] M (f12_comes_b33 M a0 a1 a2) := by
  obtain ⟨d33, d34, d35, d36, d39, d45, -⟩ := dd12_comes_b33
  intro M a0 a1 a2
  unfold f12_comes_b33
  refine X_aloadn 0 d33 rfl ?_
  refine X_iloadn 1 d34 rfl ?_
  refine X_iloadn 2 d35 rfl ?_
  refine X_cVl (as := [vi a1, vi a2]) d36 cv_x12_365 ⟨by decide, by decide⟩ rfl (Nat.le_of_ble_eq_true rfl) (T12_comesTo M a0 a1 a2) (fun r36 M36 _ => ?_)
  refine X_goto (t := 45) d39 rfl ?_
  exact X_lreturn d45 rfl rfl

theorem dd12_comes : AllD (ib i12_comes) [(0, .aload_n 0, 1), (1, .iconst 0, 1), (2, .putfield 113, 3), (5, .aload_n 0, 1), (6, .getfield 236, 3), (9, .ifCond .eq 33, 3), (12, .aload_n 0, 1), (13, .iload_n 1, 1), (14, .invokevirtual 350, 3), (17, .ifCond .eq 25, 3), (20, .iload_n 2, 1), (21, .iconst (-1), 1), (22, .if_icmp .eq 11, 3), (25, .aload_n 0, 1), (26, .iload_n 2, 1), (27, .invokevirtual 353, 3), (30, .ifCond .eq 12, 3), (42, .ldc2_w 116, 3), (45, .lreturn, 1)] := allD_of (by decide +kernel)
def f12_comes (M : MM) (a0 : Nat) (a1 : Int32) (a2 : Int32) : Option (Int64 × MM) :=
  aO M a0 12 <|
  bM (sI M a0 0 (0 : Int32)) fun M2 =>
  aO M2 a0 12 <|
  if (mI M2 a0 19) = 0 then
    some ((-1 : Int64), M2)
  else
    aO M2 a0 12 <|
    cI (f12_isState M2 a0 a1) fun r14 M14 =>
    if r14 = 0 then
      some ((-1 : Int64), M14)
    else
      if a2 = (-1 : Int32) then
        f12_comes_b33 M14 a0 a1 a2
      else
        aO M14 a0 12 <|
        cI (f12_isSign M14 a0 a2) fun r27 M27 =>
        if r27 = 0 then
          some ((-1 : Int64), M27)
        else
          f12_comes_b33 M27 a0 a1 a2
set_option maxRecDepth 4000 in
theorem T12_comes (M : MM) (a0 : Nat) (a1 : Int32) (a2 : Int32) : ∀ q, f12_comes M a0 a1 a2 = some q → Run i12_comes [vr a0, vi a1, vi a2] M (Ll q) := by
  obtain ⟨d0, d1, d2, d5, d6, d9, d12, d13, d14, d17, d20, d21, d22, d25, d26, d27, d30, d42, d45, -⟩ := dd12_comes
  refine Run_of_X (by decide) (Nat.le_of_ble_eq_true rfl) ?_
  show X Ll i12_comes 0 [(0, vr a0), (1, vi a1), (2, vi a2)] [] M _
  unfold f12_comes
  refine X_aloadn 0 d0 rfl ?_
  refine X_iconst k_i_0 d1 ?_
  refine X_putI d2 fp_x12_113 ?_
  refine X_bM fun M2 _ => ?_
  refine X_aloadn 0 d5 rfl ?_
  refine X_getI d6 fg_x12_236 ?_
  refine X_if_eq (t := 42) d9 rfl (fun h9 => ?_) (fun h9 => ?_)
  · refine X_ldc2 kc_x12_116 d42 ?_
    exact X_lreturn d45 rfl rfl
  · refine X_aloadn 0 d12 rfl ?_
    refine X_iloadn 1 d13 rfl ?_
    refine X_cVi (as := [vi a1]) d14 cv_x12_350 ⟨by decide, by decide⟩ rfl (Nat.le_of_ble_eq_true rfl) (T12_isState M2 a0 a1) (fun r14 M14 _ => ?_)
    refine X_if_eq (t := 42) d17 rfl (fun h17 => ?_) (fun h17 => ?_)
    · refine X_ldc2 kc_x12_116 d42 ?_
      exact X_lreturn d45 rfl rfl
    · refine X_iloadn 2 d20 rfl ?_
      refine X_iconst k_i_m1 d21 ?_
      refine X_icmp_eq (t := 33) d22 rfl (fun h22 => ?_) (fun h22 => ?_)
      · exact T12_comes_b33 M14 a0 a1 a2
      · refine X_aloadn 0 d25 rfl ?_
        refine X_iloadn 2 d26 rfl ?_
        refine X_cVi (as := [vi a2]) d27 cv_x12_353 ⟨by decide, by decide⟩ rfl (Nat.le_of_ble_eq_true rfl) (T12_isSign M14 a0 a2) (fun r27 M27 _ => ?_)
        refine X_if_eq (t := 42) d30 rfl (fun h30 => ?_) (fun h30 => ?_)
        · refine X_ldc2 kc_x12_116 d42 ?_
          exact X_lreturn d45 rfl rfl
        · exact T12_comes_b33 M27 a0 a1 a2

theorem dd12_targetsAreGoals_b71 : AllD (ib i12_targetsAreGoals) [(71, .iload_n 2, 1), (72, .iconst 3, 1), (73, .if_icmp .ge 32, 3), (76, .aload_n 0, 1), (77, .getfield 47, 3), (80, .iconst 3, 1), (81, .iload_n 1, 1), (82, .imul, 1), (83, .iload_n 2, 1), (84, .iadd, 1), (85, .aload_n 0, 1), (86, .getfield 19, 3), (89, .bipush 6, 2), (91, .iload_n 1, 1), (92, .imul, 1), (93, .iconst 3, 1), (94, .iadd, 1), (95, .iload_n 2, 1), (96, .iadd, 1), (97, .iaload, 1), (98, .iastore, 1), (99, .iinc 2 1, 3), (102, .goto (-31), 3), (105, .iinc 1 1, 3), (108, .goto (-96), 3)] := allD_of (by decide +kernel)
def f12_targetsAreGoals_b71_body (K12 : MM → Nat → Int32 → Option MM) (rc : MM → Nat → Int32 → Int32 → Option MM) (M : MM) (a0 : Nat) (a1 : Int32) (a2 : Int32) : Option MM :=
  if (3 : Int32) ≤ a2 then
    K12 M a0 (a1 + (1 : Int32))
  else
    aO M a0 12 <|
    aO M a0 12 <|
    aA M (mR M a0 4) 0 ((((6 : Int32) * a1) + (3 : Int32)) + a2) <|
    aA M (mR M a0 27) 0 (((3 : Int32) * a1) + a2) <|
    bM (sI M (mR M a0 27) (((3 : Int32) * a1) + a2).toNatClampNeg (mI M (mR M a0 4) ((((6 : Int32) * a1) + (3 : Int32)) + a2).toNatClampNeg)) fun M98 =>
    rc M98 a0 a1 (a2 + (1 : Int32))
def f12_targetsAreGoals_b71 (K12 : MM → Nat → Int32 → Option MM) : MM → Nat → Int32 → Int32 → Option MM := LP4 (f12_targetsAreGoals_b71_body K12) FU
set_option maxRecDepth 4000 in
theorem T12_targetsAreGoals_b71 {K12 : MM → Nat → Int32 → Option MM} (hK12 : ∀ (M : MM) (a0 : Nat) (a1 : Int32), X Lv i12_targetsAreGoals 12 [(0, vr a0), (1, vi a1)] [] M (K12 M a0 a1)) : ∀ (M : MM) (a0 : Nat) (a1 : Int32) (a2 : Int32), X Lv i12_targetsAreGoals 71 [(0, vr a0), (1, vi a1), (2, vi a2)] [] M (f12_targetsAreGoals_b71 K12 M a0 a1 a2) := by
  obtain ⟨d71, d72, d73, d76, d77, d80, d81, d82, d83, d84, d85, d86, d89, d91, d92, d93, d94, d95, d96, d97, d98, d99, d102, d105, d108, -⟩ := dd12_targetsAreGoals_b71
  refine LP4_i (P := fun M a0 a1 a2 o => X Lv i12_targetsAreGoals 71 [(0, vr a0), (1, vi a1), (2, vi a2)] [] M o) (fun _ _ _ _ => X_none) (fun rc ih M a0 a1 a2 => ?_) FU
  unfold f12_targetsAreGoals_b71_body
  refine X_iloadn 2 d71 rfl ?_
  refine X_iconst k_i_3 d72 ?_
  refine X_icmp_ge (t := 105) d73 rfl (fun h73 => ?_) (fun h73 => ?_)
  · refine X_inc (lv' := [(1, vi (a1 + (1 : Int32))), (0, vr a0), (2, vi a2)]) 1 d105 k_i_1 rfl (by decide) rfl ?_
    refine X_goto (t := 12) d108 rfl ?_
    refine X_sub [1, 0] rfl ?_
    exact hK12 M a0 (a1 + (1 : Int32))
  · refine X_aloadn 0 d76 rfl ?_
    refine X_getR d77 fg_x12_47 ?_
    refine X_iconst k_i_3 d80 ?_
    refine X_iloadn 1 d81 rfl ?_
    refine X_imul d82 ?_
    refine X_iloadn 2 d83 rfl ?_
    refine X_iadd d84 ?_
    refine X_aloadn 0 d85 rfl ?_
    refine X_getR d86 fg_x12_19 ?_
    refine X_bipush k_b_6 d89 ?_
    refine X_iloadn 1 d91 rfl ?_
    refine X_imul d92 ?_
    refine X_iconst k_i_3 d93 ?_
    refine X_iadd d94 ?_
    refine X_iloadn 2 d95 rfl ?_
    refine X_iadd d96 ?_
    refine X_iaload d97 ?_
    refine X_iastore d98 ?_
    refine X_bM fun M98 _ => ?_
    refine X_inc (lv' := [(2, vi (a2 + (1 : Int32))), (0, vr a0), (1, vi a1)]) 2 d99 k_i_1 rfl (by decide) rfl ?_
    refine X_goto (t := 71) d102 rfl ?_
    refine X_sub [1, 2, 0] rfl ?_
    exact ih M98 a0 a1 (a2 + (1 : Int32))

theorem dd12_targetsAreGoals_b12 : AllD (ib i12_targetsAreGoals) [(12, .iload_n 1, 1), (13, .aload_n 0, 1), (14, .getfield 278, 3), (17, .if_icmp .ge 94, 3), (20, .aload_n 0, 1), (21, .getfield 38, 3), (24, .iload_n 1, 1), (25, .aload_n 0, 1), (26, .getfield 19, 3), (29, .bipush 6, 2), (31, .iload_n 1, 1), (32, .imul, 1), (33, .iaload, 1), (34, .iastore, 1), (35, .aload_n 0, 1), (36, .getfield 41, 3), (39, .iload_n 1, 1), (40, .aload_n 0, 1), (41, .getfield 19, 3), (44, .bipush 6, 2), (46, .iload_n 1, 1), (47, .imul, 1), (48, .iconst 1, 1), (49, .iadd, 1), (50, .iaload, 1), (51, .iastore, 1), (52, .aload_n 0, 1), (53, .getfield 44, 3), (56, .iload_n 1, 1), (57, .aload_n 0, 1), (58, .getfield 19, 3), (61, .bipush 6, 2), (63, .iload_n 1, 1), (64, .imul, 1), (65, .iconst 2, 1), (66, .iadd, 1), (67, .iaload, 1), (68, .iastore, 1), (69, .iconst 0, 1), (70, .istore_n 2, 1), (111, .return_, 1)] := allD_of (by decide +kernel)
def f12_targetsAreGoals_b12_body (rc : MM → Nat → Int32 → Option MM) (M : MM) (a0 : Nat) (a1 : Int32) : Option MM :=
  aO M a0 12 <|
  if (mI M a0 30) ≤ a1 then
    some M
  else
    aO M a0 12 <|
    aO M a0 12 <|
    aA M (mR M a0 4) 0 ((6 : Int32) * a1) <|
    aA M (mR M a0 24) 0 a1 <|
    bM (sI M (mR M a0 24) a1.toNatClampNeg (mI M (mR M a0 4) ((6 : Int32) * a1).toNatClampNeg)) fun M34 =>
    aO M34 a0 12 <|
    aO M34 a0 12 <|
    aA M34 (mR M34 a0 4) 0 (((6 : Int32) * a1) + (1 : Int32)) <|
    aA M34 (mR M34 a0 25) 0 a1 <|
    bM (sI M34 (mR M34 a0 25) a1.toNatClampNeg (mI M34 (mR M34 a0 4) (((6 : Int32) * a1) + (1 : Int32)).toNatClampNeg)) fun M51 =>
    aO M51 a0 12 <|
    aO M51 a0 12 <|
    aA M51 (mR M51 a0 4) 0 (((6 : Int32) * a1) + (2 : Int32)) <|
    aA M51 (mR M51 a0 26) 0 a1 <|
    bM (sI M51 (mR M51 a0 26) a1.toNatClampNeg (mI M51 (mR M51 a0 4) (((6 : Int32) * a1) + (2 : Int32)).toNatClampNeg)) fun M68 =>
    (f12_targetsAreGoals_b71 rc) M68 a0 a1 (0 : Int32)
def f12_targetsAreGoals_b12 : MM → Nat → Int32 → Option MM := LP3 (f12_targetsAreGoals_b12_body) FU
set_option maxRecDepth 4000 in
theorem T12_targetsAreGoals_b12 : ∀ (M : MM) (a0 : Nat) (a1 : Int32), X Lv i12_targetsAreGoals 12 [(0, vr a0), (1, vi a1)] [] M (f12_targetsAreGoals_b12 M a0 a1) := by
  obtain ⟨d12, d13, d14, d17, d20, d21, d24, d25, d26, d29, d31, d32, d33, d34, d35, d36, d39, d40, d41, d44, d46, d47, d48, d49, d50, d51, d52, d53, d56, d57, d58, d61, d63, d64, d65, d66, d67, d68, d69, d70, d111, -⟩ := dd12_targetsAreGoals_b12
  refine LP3_i (P := fun M a0 a1 o => X Lv i12_targetsAreGoals 12 [(0, vr a0), (1, vi a1)] [] M o) (fun _ _ _ => X_none) (fun rc ih M a0 a1 => ?_) FU
  unfold f12_targetsAreGoals_b12_body
  refine X_iloadn 1 d12 rfl ?_
  refine X_aloadn 0 d13 rfl ?_
  refine X_getI d14 fg_x12_278 ?_
  refine X_icmp_ge (t := 111) d17 rfl (fun h17 => ?_) (fun h17 => ?_)
  · exact X_vreturn d111 rfl rfl
  · refine X_aloadn 0 d20 rfl ?_
    refine X_getR d21 fg_x12_38 ?_
    refine X_iloadn 1 d24 rfl ?_
    refine X_aloadn 0 d25 rfl ?_
    refine X_getR d26 fg_x12_19 ?_
    refine X_bipush k_b_6 d29 ?_
    refine X_iloadn 1 d31 rfl ?_
    refine X_imul d32 ?_
    refine X_iaload d33 ?_
    refine X_iastore d34 ?_
    refine X_bM fun M34 _ => ?_
    refine X_aloadn 0 d35 rfl ?_
    refine X_getR d36 fg_x12_41 ?_
    refine X_iloadn 1 d39 rfl ?_
    refine X_aloadn 0 d40 rfl ?_
    refine X_getR d41 fg_x12_19 ?_
    refine X_bipush k_b_6 d44 ?_
    refine X_iloadn 1 d46 rfl ?_
    refine X_imul d47 ?_
    refine X_iconst k_i_1 d48 ?_
    refine X_iadd d49 ?_
    refine X_iaload d50 ?_
    refine X_iastore d51 ?_
    refine X_bM fun M51 _ => ?_
    refine X_aloadn 0 d52 rfl ?_
    refine X_getR d53 fg_x12_44 ?_
    refine X_iloadn 1 d56 rfl ?_
    refine X_aloadn 0 d57 rfl ?_
    refine X_getR d58 fg_x12_19 ?_
    refine X_bipush k_b_6 d61 ?_
    refine X_iloadn 1 d63 rfl ?_
    refine X_imul d64 ?_
    refine X_iconst k_i_2 d65 ?_
    refine X_iadd d66 ?_
    refine X_iaload d67 ?_
    refine X_iastore d68 ?_
    refine X_bM fun M68 _ => ?_
    refine X_iconst k_i_0 d69 ?_
    refine X_istoren (lv' := [(2, vi (0 : Int32)), (0, vr a0), (1, vi a1)]) d70 (by decide) rfl ?_
    refine X_sub [1, 2, 0] rfl ?_
    exact (T12_targetsAreGoals_b71 ih) M68 a0 a1 (0 : Int32)

theorem dd12_targetsAreGoals : AllD (ib i12_targetsAreGoals) [(0, .aload_n 0, 1), (1, .aload_n 0, 1), (2, .getfield 7, 3), (5, .iconst 3, 1), (6, .iaload, 1), (7, .putfield 278, 3), (10, .iconst 0, 1), (11, .istore_n 1, 1)] := allD_of (by decide +kernel)
def f12_targetsAreGoals (M : MM) (a0 : Nat) : Option MM :=
  aO M a0 12 <|
  aA M (mR M a0 1) 0 (3 : Int32) <|
  aO M a0 12 <|
  bM (sI M a0 30 (mI M (mR M a0 1) (3 : Int32).toNatClampNeg)) fun M7 =>
  f12_targetsAreGoals_b12 M7 a0 (0 : Int32)
set_option maxRecDepth 4000 in
theorem T12_targetsAreGoals (M : MM) (a0 : Nat) : ∀ q, f12_targetsAreGoals M a0 = some q → Run i12_targetsAreGoals [vr a0] M (Lv q) := by
  obtain ⟨d0, d1, d2, d5, d6, d7, d10, d11, -⟩ := dd12_targetsAreGoals
  refine Run_of_X (by decide) (Nat.le_of_ble_eq_true rfl) ?_
  show X Lv i12_targetsAreGoals 0 [(0, vr a0)] [] M _
  unfold f12_targetsAreGoals
  refine X_aloadn 0 d0 rfl ?_
  refine X_aloadn 0 d1 rfl ?_
  refine X_getR d2 fg_x12_7 ?_
  refine X_iconst k_i_3 d5 ?_
  refine X_iaload d6 ?_
  refine X_putI d7 fp_x12_278 ?_
  refine X_bM fun M7 _ => ?_
  refine X_iconst k_i_0 d10 ?_
  refine X_istoren (lv' := [(1, vi (0 : Int32)), (0, vr a0)]) d11 (by decide) rfl ?_
  refine X_sub [1, 0] rfl ?_
  exact T12_targetsAreGoals_b12 M7 a0 (0 : Int32)

theorem dd12_layTold : AllD (ib i12_layTold) [(0, .aload_n 0, 1), (1, .invokevirtual 309, 3), (4, .aload_n 0, 1), (5, .getfield 243, 3), (8, .ifCond .ne 16, 3), (11, .aload_n 0, 1), (12, .iconst 1, 1), (13, .putfield 243, 3), (16, .aload_n 0, 1), (17, .aload_n 0, 1), (18, .getfield 50, 3), (21, .invokevirtual 312, 3), (24, .return_, 1)] := allD_of (by decide +kernel)
def f12_layTold (M : MM) (a0 : Nat) : Option MM :=
  aO M a0 12 <|
  cV (f12_targetsAreGoals M a0) fun M1 =>
  aO M1 a0 12 <|
  if (mI M1 a0 31) = 0 then
    aO M1 a0 12 <|
    bM (sI M1 a0 31 (1 : Int32)) fun M13 =>
    aO M13 a0 12 <|
    aO M13 a0 12 <|
    cV (f12_lay M13 a0 (mR M13 a0 28)) fun M21 =>
    some M21
  else
    some M1
set_option maxRecDepth 4000 in
theorem T12_layTold (M : MM) (a0 : Nat) : ∀ q, f12_layTold M a0 = some q → Run i12_layTold [vr a0] M (Lv q) := by
  obtain ⟨d0, d1, d4, d5, d8, d11, d12, d13, d16, d17, d18, d21, d24, -⟩ := dd12_layTold
  refine Run_of_X (by decide) (Nat.le_of_ble_eq_true rfl) ?_
  show X Lv i12_layTold 0 [(0, vr a0)] [] M _
  unfold f12_layTold
  refine X_aloadn 0 d0 rfl ?_
  refine X_cVv (as := []) d1 cv_x12_309 ⟨by decide, by decide⟩ rfl (Nat.le_of_ble_eq_true rfl) (T12_targetsAreGoals M a0) (fun M1 _ => ?_)
  refine X_aloadn 0 d4 rfl ?_
  refine X_getI d5 fg_x12_243 ?_
  refine X_if_ne (t := 24) d8 rfl (fun h8 => ?_) (fun h8 => ?_)
  · refine X_aloadn 0 d11 rfl ?_
    refine X_iconst k_i_1 d12 ?_
    refine X_putZc d13 fp_x12_243 (by decide) ?_
    refine X_bM fun M13 _ => ?_
    refine X_aloadn 0 d16 rfl ?_
    refine X_aloadn 0 d17 rfl ?_
    refine X_getR d18 fg_x12_50 ?_
    refine X_cVv (as := [vr (mR M13 a0 28)]) d21 cv_x12_312 ⟨by decide, by decide⟩ rfl (Nat.le_of_ble_eq_true rfl) (T12_lay M13 a0 (mR M13 a0 28)) (fun M21 _ => ?_)
    exact X_vreturn d24 rfl rfl
  · exact X_vreturn d24 rfl rfl

theorem dd12_cost : AllD (ib i12_cost) [(0, .aload_n 0, 1), (1, .iconst 0, 1), (2, .putfield 113, 3), (5, .aload_n 0, 1), (6, .getfield 236, 3), (9, .ifCond .ne 7, 3), (12, .ldc2_w 116, 3), (15, .lreturn, 1), (16, .aload_n 0, 1), (17, .invokevirtual 326, 3), (20, .aload_n 0, 1), (21, .aload_n 0, 1), (22, .getfield 50, 3), (25, .invokevirtual 329, 3), (28, .lreturn, 1)] := allD_of (by decide +kernel)
def f12_cost (M : MM) (a0 : Nat) : Option (Int64 × MM) :=
  aO M a0 12 <|
  bM (sI M a0 0 (0 : Int32)) fun M2 =>
  aO M2 a0 12 <|
  if (mI M2 a0 19) = 0 then
    some ((-1 : Int64), M2)
  else
    aO M2 a0 12 <|
    cV (f12_layTold M2 a0) fun M17 =>
    aO M17 a0 12 <|
    aO M17 a0 12 <|
    cJ (f12_costNow M17 a0 (mR M17 a0 28)) fun r25 M25 =>
    some (r25, M25)
set_option maxRecDepth 4000 in
theorem T12_cost (M : MM) (a0 : Nat) : ∀ q, f12_cost M a0 = some q → Run i12_cost [vr a0] M (Ll q) := by
  obtain ⟨d0, d1, d2, d5, d6, d9, d12, d15, d16, d17, d20, d21, d22, d25, d28, -⟩ := dd12_cost
  refine Run_of_X (by decide) (Nat.le_of_ble_eq_true rfl) ?_
  show X Ll i12_cost 0 [(0, vr a0)] [] M _
  unfold f12_cost
  refine X_aloadn 0 d0 rfl ?_
  refine X_iconst k_i_0 d1 ?_
  refine X_putI d2 fp_x12_113 ?_
  refine X_bM fun M2 _ => ?_
  refine X_aloadn 0 d5 rfl ?_
  refine X_getI d6 fg_x12_236 ?_
  refine X_if_ne (t := 16) d9 rfl (fun h9 => ?_) (fun h9 => ?_)
  · refine X_ldc2 kc_x12_116 d12 ?_
    exact X_lreturn d15 rfl rfl
  · refine X_aloadn 0 d16 rfl ?_
    refine X_cVv (as := []) d17 cv_x12_326 ⟨by decide, by decide⟩ rfl (Nat.le_of_ble_eq_true rfl) (T12_layTold M2 a0) (fun M17 _ => ?_)
    refine X_aloadn 0 d20 rfl ?_
    refine X_aloadn 0 d21 rfl ?_
    refine X_getR d22 fg_x12_50 ?_
    refine X_cVl (as := [vr (mR M17 a0 28)]) d25 cv_x12_329 ⟨by decide, by decide⟩ rfl (Nat.le_of_ble_eq_true rfl) (T12_costNow M17 a0 (mR M17 a0 28)) (fun r25 M25 _ => ?_)
    exact X_lreturn d28 rfl rfl

theorem dd12_does_b29 : AllD (ib i12_does) [(29, .iload_n 2, 1), (30, .ifCond .lt 36, 3), (33, .aload_n 0, 1), (34, .getfield 29, 3), (37, .aload_n 0, 1), (38, .getfield 255, 3), (41, .aload_n 0, 1), (42, .iload_n 1, 1), (43, .iconst 4, 1), (44, .iload_n 2, 1), (45, .iadd, 1), (46, .invokevirtual 138, 3), (49, .iastore, 1), (50, .aload_n 0, 1), (51, .dup, 1), (52, .getfield 255, 3), (55, .iconst 1, 1), (56, .iadd, 1), (57, .putfield 255, 3), (60, .iinc 2 (-1), 3), (63, .goto (-34), 3), (66, .return_, 1)] := allD_of (by decide +kernel)
def f12_does_b29_body (rc : MM → Nat → Int32 → Int32 → Option MM) (M : MM) (a0 : Nat) (a1 : Int32) (a2 : Int32) : Option MM :=
  if a2 < 0 then
    some M
  else
    aO M a0 12 <|
    aO M a0 12 <|
    aO M a0 12 <|
    cI (f12_ruleOf M a0 a1 ((4 : Int32) + a2)) fun r46 M46 =>
    aA M46 (mR M a0 17) 0 (mI M a0 21) <|
    bM (sI M46 (mR M a0 17) (mI M a0 21).toNatClampNeg r46) fun M49 =>
    aO M49 a0 12 <|
    aO M49 a0 12 <|
    bM (sI M49 a0 21 ((mI M49 a0 21) + (1 : Int32))) fun M57 =>
    rc M57 a0 a1 (a2 + (-1 : Int32))
def f12_does_b29 : MM → Nat → Int32 → Int32 → Option MM := LP4 (f12_does_b29_body) FU
set_option maxRecDepth 4000 in
theorem T12_does_b29 : ∀ (M : MM) (a0 : Nat) (a1 : Int32) (a2 : Int32), X Lv i12_does 29 [(0, vr a0), (1, vi a1), (2, vi a2)] [] M (f12_does_b29 M a0 a1 a2) := by
  obtain ⟨d29, d30, d33, d34, d37, d38, d41, d42, d43, d44, d45, d46, d49, d50, d51, d52, d55, d56, d57, d60, d63, d66, -⟩ := dd12_does_b29
  refine LP4_i (P := fun M a0 a1 a2 o => X Lv i12_does 29 [(0, vr a0), (1, vi a1), (2, vi a2)] [] M o) (fun _ _ _ _ => X_none) (fun rc ih M a0 a1 a2 => ?_) FU
  unfold f12_does_b29_body
  refine X_iloadn 2 d29 rfl ?_
  refine X_if_lt (t := 66) d30 rfl (fun h30 => ?_) (fun h30 => ?_)
  · exact X_vreturn d66 rfl rfl
  · refine X_aloadn 0 d33 rfl ?_
    refine X_getR d34 fg_x12_29 ?_
    refine X_aloadn 0 d37 rfl ?_
    refine X_getI d38 fg_x12_255 ?_
    refine X_aloadn 0 d41 rfl ?_
    refine X_iloadn 1 d42 rfl ?_
    refine X_iconst k_i_4 d43 ?_
    refine X_iloadn 2 d44 rfl ?_
    refine X_iadd d45 ?_
    refine X_cVi (as := [vi a1, vi ((4 : Int32) + a2)]) d46 cv_x12_138 ⟨by decide, by decide⟩ rfl (Nat.le_of_ble_eq_true rfl) (T12_ruleOf M a0 a1 ((4 : Int32) + a2)) (fun r46 M46 _ => ?_)
    refine X_iastore d49 ?_
    refine X_bM fun M49 _ => ?_
    refine X_aloadn 0 d50 rfl ?_
    refine X_dupr d51 ?_
    refine X_getI d52 fg_x12_255 ?_
    refine X_iconst k_i_1 d55 ?_
    refine X_iadd d56 ?_
    refine X_putI d57 fp_x12_255 ?_
    refine X_bM fun M57 _ => ?_
    refine X_inc (lv' := [(2, vi (a2 + (-1 : Int32))), (0, vr a0), (1, vi a1)]) 2 d60 k_i_m1 rfl (by decide) rfl ?_
    refine X_goto (t := 29) d63 rfl ?_
    refine X_sub [1, 2, 0] rfl ?_
    exact ih M57 a0 a1 (a2 + (-1 : Int32))

theorem dd12_does : AllD (ib i12_does) [(0, .aload_n 0, 1), (1, .aload_n 0, 1), (2, .iload_n 1, 1), (3, .iconst 2, 1), (4, .invokevirtual 138, 3), (7, .putfield 252, 3), (10, .aload_n 0, 1), (11, .dup, 1), (12, .getfield 255, 3), (15, .iconst 1, 1), (16, .isub, 1), (17, .putfield 255, 3), (20, .aload_n 0, 1), (21, .iload_n 1, 1), (22, .iconst 3, 1), (23, .invokevirtual 138, 3), (26, .iconst 1, 1), (27, .isub, 1), (28, .istore_n 2, 1)] := allD_of (by decide +kernel)
def f12_does (M : MM) (a0 : Nat) (a1 : Int32) : Option MM :=
  aO M a0 12 <|
  cI (f12_ruleOf M a0 a1 (2 : Int32)) fun r4 M4 =>
  aO M4 a0 12 <|
  bM (sI M4 a0 20 r4) fun M7 =>
  aO M7 a0 12 <|
  aO M7 a0 12 <|
  bM (sI M7 a0 21 ((mI M7 a0 21) - (1 : Int32))) fun M17 =>
  aO M17 a0 12 <|
  cI (f12_ruleOf M17 a0 a1 (3 : Int32)) fun r23 M23 =>
  bW (r23 - (1 : Int32)) fun v28 =>
  f12_does_b29 M23 a0 a1 v28
set_option maxRecDepth 4000 in
theorem T12_does (M : MM) (a0 : Nat) (a1 : Int32) : ∀ q, f12_does M a0 a1 = some q → Run i12_does [vr a0, vi a1] M (Lv q) := by
  obtain ⟨d0, d1, d2, d3, d4, d7, d10, d11, d12, d15, d16, d17, d20, d21, d22, d23, d26, d27, d28, -⟩ := dd12_does
  refine Run_of_X (by decide) (Nat.le_of_ble_eq_true rfl) ?_
  show X Lv i12_does 0 [(0, vr a0), (1, vi a1)] [] M _
  unfold f12_does
  refine X_aloadn 0 d0 rfl ?_
  refine X_aloadn 0 d1 rfl ?_
  refine X_iloadn 1 d2 rfl ?_
  refine X_iconst k_i_2 d3 ?_
  refine X_cVi (as := [vi a1, vi (2 : Int32)]) d4 cv_x12_138 ⟨by decide, by decide⟩ rfl (Nat.le_of_ble_eq_true rfl) (T12_ruleOf M a0 a1 (2 : Int32)) (fun r4 M4 _ => ?_)
  refine X_putI d7 fp_x12_252 ?_
  refine X_bM fun M7 _ => ?_
  refine X_aloadn 0 d10 rfl ?_
  refine X_dupr d11 ?_
  refine X_getI d12 fg_x12_255 ?_
  refine X_iconst k_i_1 d15 ?_
  refine X_isub d16 ?_
  refine X_putI d17 fp_x12_255 ?_
  refine X_bM fun M17 _ => ?_
  refine X_aloadn 0 d20 rfl ?_
  refine X_iloadn 1 d21 rfl ?_
  refine X_iconst k_i_3 d22 ?_
  refine X_cVi (as := [vi a1, vi (3 : Int32)]) d23 cv_x12_138 ⟨by decide, by decide⟩ rfl (Nat.le_of_ble_eq_true rfl) (T12_ruleOf M17 a0 a1 (3 : Int32)) (fun r23 M23 _ => ?_)
  refine X_iconst k_i_1 d26 ?_
  refine X_isub d27 ?_
  refine X_bWi fun v28 _ => ?_
  refine X_istoren (lv' := [(2, vi v28), (0, vr a0), (1, vi a1)]) d28 (by decide) rfl ?_
  refine X_sub [1, 2, 0] rfl ?_
  exact T12_does_b29 M23 a0 a1 v28

theorem dd12_end : AllD (ib i12_end) [(0, .aload_n 0, 1), (1, .iconst 0, 1), (2, .putfield 113, 3), (5, .iload_n 1, 1), (6, .iconst 0, 1), (7, .aload_n 0, 1), (8, .getfield 142, 3), (11, .invokestatic 124, 3), (14, .ifCond .ne 5, 3), (17, .iconst (-1), 1), (18, .ireturn, 1), (19, .aload_n 0, 1), (20, .iload_n 1, 1), (21, .putfield 142, 3), (24, .iload_n 1, 1), (25, .ireturn, 1)] := allD_of (by decide +kernel)
def f12_end (M : MM) (a0 : Nat) (a1 : Int32) : Option (Int32 × MM) :=
  aO M a0 12 <|
  bM (sI M a0 0 (0 : Int32)) fun M2 =>
  aO M2 a0 12 <|
  cI (f12_in M2 a1 (0 : Int32) (mI M2 a0 7)) fun r11 M11 =>
  if r11 = 0 then
    some ((-1 : Int32), M11)
  else
    aO M11 a0 12 <|
    bM (sI M11 a0 7 a1) fun M21 =>
    some (a1, M21)
set_option maxRecDepth 4000 in
theorem T12_end (M : MM) (a0 : Nat) (a1 : Int32) : ∀ q, f12_end M a0 a1 = some q → Run i12_end [vr a0, vi a1] M (Li q) := by
  obtain ⟨d0, d1, d2, d5, d6, d7, d8, d11, d14, d17, d18, d19, d20, d21, d24, d25, -⟩ := dd12_end
  refine Run_of_X (by decide) (Nat.le_of_ble_eq_true rfl) ?_
  show X Li i12_end 0 [(0, vr a0), (1, vi a1)] [] M _
  unfold f12_end
  refine X_aloadn 0 d0 rfl ?_
  refine X_iconst k_i_0 d1 ?_
  refine X_putI d2 fp_x12_113 ?_
  refine X_bM fun M2 _ => ?_
  refine X_iloadn 1 d5 rfl ?_
  refine X_iconst k_i_0 d6 ?_
  refine X_aloadn 0 d7 rfl ?_
  refine X_getI d8 fg_x12_142 ?_
  refine X_cSi (as := [vi a1, vi (0 : Int32), vi (mI M2 a0 7)]) d11 cs_x12_124 ⟨by decide, by decide⟩ rfl (Nat.le_of_ble_eq_true rfl) (T12_in M2 a1 (0 : Int32) (mI M2 a0 7)) (fun r11 M11 _ => ?_)
  refine X_if_ne (t := 19) d14 rfl (fun h14 => ?_) (fun h14 => ?_)
  · refine X_iconst k_i_m1 d17 ?_
    exact X_ireturn d18 rfl rfl
  · refine X_aloadn 0 d19 rfl ?_
    refine X_iloadn 1 d20 rfl ?_
    refine X_putI d21 fp_x12_142 ?_
    refine X_bM fun M21 _ => ?_
    refine X_iloadn 1 d24 rfl ?_
    exact X_ireturn d25 rfl rfl

theorem dd12_head : AllD (ib i12_head) [(0, .bipush 6, 2), (2, .iload_n 1, 1), (3, .imul, 1), (4, .iload_n 2, 1), (5, .iadd, 1), (6, .ireturn, 1)] := allD_of (by decide +kernel)
def f12_head (M : MM) (a0 : Nat) (a1 : Int32) (a2 : Int32) : Option (Int32 × MM) :=
  some (((6 : Int32) * a1) + a2, M)
set_option maxRecDepth 4000 in
theorem T12_head (M : MM) (a0 : Nat) (a1 : Int32) (a2 : Int32) : ∀ q, f12_head M a0 a1 a2 = some q → Run i12_head [vr a0, vi a1, vi a2] M (Li q) := by
  obtain ⟨d0, d2, d3, d4, d5, d6, -⟩ := dd12_head
  refine Run_of_X (by decide) (Nat.le_of_ble_eq_true rfl) ?_
  show X Li i12_head 0 [(0, vr a0), (1, vi a1), (2, vi a2)] [] M _
  unfold f12_head
  refine X_bipush k_b_6 d0 ?_
  refine X_iloadn 1 d2 rfl ?_
  refine X_imul d3 ?_
  refine X_iloadn 2 d4 rfl ?_
  refine X_iadd d5 ?_
  exact X_ireturn d6 rfl rfl

