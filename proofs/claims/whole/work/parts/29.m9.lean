/-! printed by program: methods as functions, and that the bytecode does what they tell -/
theorem dd12_newGoal_b120 : AllD (ib i12_newGoal) [(120, .aload_n 0, 1), (121, .getfield 7, 3), (124, .bipush 7, 2), (126, .dup2, 1), (127, .iaload, 1), (128, .iconst 1, 1), (129, .iadd, 1), (130, .iastore, 1), (131, .return_, 1)] := allD_of (by decide +kernel)
def f12_newGoal_b120 (M : MM) (a0 : Nat) : Option MM :=
  aO M a0 12 <|
  aA M (mR M a0 1) 0 (7 : Int32) <|
  aA M (mR M a0 1) 0 (7 : Int32) <|
  bM (sI M (mR M a0 1) (7 : Int32).toNatClampNeg ((mI M (mR M a0 1) (7 : Int32).toNatClampNeg) + (1 : Int32))) fun M130 =>
  some M130
set_option maxRecDepth 4000 in
theorem T12_newGoal_b120 : ∀ (M : MM) (a0 : Nat), X Lv i12_newGoal 120 [(0, vr a0)] [] M (f12_newGoal_b120 M a0) := by
  obtain ⟨d120, d121, d124, d126, d127, d128, d129, d130, d131, -⟩ := dd12_newGoal_b120
  intro M a0
  unfold f12_newGoal_b120
  refine X_aloadn 0 d120 rfl ?_
  refine X_getR d121 fg_x12_7 ?_
  refine X_bipush k_b_7 d124 ?_
  refine X_dup2 d126 ?_
  refine X_iaload d127 ?_
  refine X_iconst k_i_1 d128 ?_
  refine X_iadd d129 ?_
  refine X_iastore d130 ?_
  refine X_bM fun M130 _ => ?_
  exact X_vreturn d131 rfl rfl

theorem dd12_newGoal_b73 : AllD (ib i12_newGoal) [(73, .aload_n 0, 1), (74, .getfield 19, 3), (77, .iload_n 1, 1), (78, .iconst 1, 1), (79, .iadd, 1), (80, .iload_n 2, 1), (81, .iastore, 1), (82, .aload_n 0, 1), (83, .getfield 19, 3), (86, .iload_n 1, 1), (87, .iconst 2, 1), (88, .iadd, 1), (89, .iconst 0, 1), (90, .iastore, 1), (91, .aload_n 0, 1), (92, .invokevirtual 181, 3), (95, .ifCond .eq 25, 3), (98, .aload_n 0, 1), (99, .ldc 196, 2), (101, .invokevirtual 189, 3), (104, .ifCond .eq 16, 3), (107, .aload_n 0, 1), (108, .getfield 19, 3), (111, .iload_n 1, 1), (112, .iconst 2, 1), (113, .iadd, 1), (114, .iconst 1, 1), (115, .iastore, 1), (116, .aload_n 0, 1), (117, .invokevirtual 185, 3)] := allD_of (by decide +kernel)
def f12_newGoal_b73 (M : MM) (a0 : Nat) (a1 : Int32) (a2 : Int32) : Option MM :=
  aO M a0 12 <|
  aA M (mR M a0 4) 0 (a1 + (1 : Int32)) <|
  bM (sI M (mR M a0 4) (a1 + (1 : Int32)).toNatClampNeg a2) fun M81 =>
  aO M81 a0 12 <|
  aA M81 (mR M81 a0 4) 0 (a1 + (2 : Int32)) <|
  bM (sI M81 (mR M81 a0 4) (a1 + (2 : Int32)).toNatClampNeg (0 : Int32)) fun M90 =>
  aO M90 a0 12 <|
  cI (f12_isGood M90 a0) fun r92 M92 =>
  if r92 = 0 then
    f12_newGoal_b120 M92 a0
  else
    aO M92 a0 12 <|
    cI (f12_isWord M92 a0 (441925 : Int32)) fun r101 M101 =>
    if r101 = 0 then
      f12_newGoal_b120 M101 a0
    else
      aO M101 a0 12 <|
      aA M101 (mR M101 a0 4) 0 (a1 + (2 : Int32)) <|
      bM (sI M101 (mR M101 a0 4) (a1 + (2 : Int32)).toNatClampNeg (1 : Int32)) fun M115 =>
      aO M115 a0 12 <|
      cV (f12_nextToken M115 a0) fun M117 =>
      f12_newGoal_b120 M117 a0
set_option maxRecDepth 4000 in
theorem T12_newGoal_b73 : ∀ (M : MM) (a0 : Nat) (a1 : Int32) (a2 : Int32), X Lv i12_newGoal 73 [(0, vr a0), (1, vi a1), (2, vi a2)] [] M (f12_newGoal_b73 M a0 a1 a2) := by
  obtain ⟨d73, d74, d77, d78, d79, d80, d81, d82, d83, d86, d87, d88, d89, d90, d91, d92, d95, d98, d99, d101, d104, d107, d108, d111, d112, d113, d114, d115, d116, d117, -⟩ := dd12_newGoal_b73
  intro M a0 a1 a2
  unfold f12_newGoal_b73
  refine X_aloadn 0 d73 rfl ?_
  refine X_getR d74 fg_x12_19 ?_
  refine X_iloadn 1 d77 rfl ?_
  refine X_iconst k_i_1 d78 ?_
  refine X_iadd d79 ?_
  refine X_iloadn 2 d80 rfl ?_
  refine X_iastore d81 ?_
  refine X_bM fun M81 _ => ?_
  refine X_aloadn 0 d82 rfl ?_
  refine X_getR d83 fg_x12_19 ?_
  refine X_iloadn 1 d86 rfl ?_
  refine X_iconst k_i_2 d87 ?_
  refine X_iadd d88 ?_
  refine X_iconst k_i_0 d89 ?_
  refine X_iastore d90 ?_
  refine X_bM fun M90 _ => ?_
  refine X_aloadn 0 d91 rfl ?_
  refine X_cVi (as := []) d92 cv_x12_181 ⟨by decide, by decide⟩ rfl (Nat.le_of_ble_eq_true rfl) (T12_isGood M90 a0) (fun r92 M92 _ => ?_)
  refine X_if_eq (t := 120) d95 rfl (fun h95 => ?_) (fun h95 => ?_)
  · refine X_sub [0] rfl ?_
    exact T12_newGoal_b120 M92 a0
  · refine X_aloadn 0 d98 rfl ?_
    refine X_ldc kc_x12_196 d99 ?_
    refine X_cVi (as := [vi (441925 : Int32)]) d101 cv_x12_189 ⟨by decide, by decide⟩ rfl (Nat.le_of_ble_eq_true rfl) (T12_isWord M92 a0 (441925 : Int32)) (fun r101 M101 _ => ?_)
    refine X_if_eq (t := 120) d104 rfl (fun h104 => ?_) (fun h104 => ?_)
    · refine X_sub [0] rfl ?_
      exact T12_newGoal_b120 M101 a0
    · refine X_aloadn 0 d107 rfl ?_
      refine X_getR d108 fg_x12_19 ?_
      refine X_iloadn 1 d111 rfl ?_
      refine X_iconst k_i_2 d112 ?_
      refine X_iadd d113 ?_
      refine X_iconst k_i_1 d114 ?_
      refine X_iastore d115 ?_
      refine X_bM fun M115 _ => ?_
      refine X_aloadn 0 d116 rfl ?_
      refine X_cVv (as := []) d117 cv_x12_185 ⟨by decide, by decide⟩ rfl (Nat.le_of_ble_eq_true rfl) (T12_nextToken M115 a0) (fun M117 _ => ?_)
      refine X_sub [0] rfl ?_
      exact T12_newGoal_b120 M117 a0

theorem dd12_newGoal_b32 : AllD (ib i12_newGoal) [(32, .aload_n 0, 1), (33, .invokevirtual 181, 3), (36, .ifCond .eq 37, 3), (39, .aload_n 0, 1), (40, .invokevirtual 200, 3), (43, .ifCond .eq 30, 3), (46, .iload_n 2, 1), (47, .iconst 3, 1), (48, .if_icmp .ge 25, 3), (51, .aload_n 0, 1), (52, .getfield 19, 3), (55, .iload_n 1, 1), (56, .iconst 3, 1), (57, .iadd, 1), (58, .iload_n 2, 1), (59, .iadd, 1), (60, .aload_n 0, 1), (61, .iconst 1, 1), (62, .iconst 1, 1), (63, .invokevirtual 212, 3), (66, .iastore, 1), (67, .iinc 2 1, 3), (70, .goto (-38), 3)] := allD_of (by decide +kernel)
def f12_newGoal_b32_body (rc : MM → Nat → Int32 → Int32 → Option MM) (M : MM) (a0 : Nat) (a1 : Int32) (a2 : Int32) : Option MM :=
  aO M a0 12 <|
  cI (f12_isGood M a0) fun r33 M33 =>
  if r33 = 0 then
    f12_newGoal_b73 M33 a0 a1 a2
  else
    aO M33 a0 12 <|
    cI (f12_isName M33 a0) fun r40 M40 =>
    if r40 = 0 then
      f12_newGoal_b73 M40 a0 a1 a2
    else
      if (3 : Int32) ≤ a2 then
        f12_newGoal_b73 M40 a0 a1 a2
      else
        aO M40 a0 12 <|
        aO M40 a0 12 <|
        cI (f12_oneOf M40 a0 (1 : Int32) (1 : Int32)) fun r63 M63 =>
        aA M63 (mR M40 a0 4) 0 ((a1 + (3 : Int32)) + a2) <|
        bM (sI M63 (mR M40 a0 4) ((a1 + (3 : Int32)) + a2).toNatClampNeg r63) fun M66 =>
        rc M66 a0 a1 (a2 + (1 : Int32))
def f12_newGoal_b32 : MM → Nat → Int32 → Int32 → Option MM := LP4 (f12_newGoal_b32_body) FU
set_option maxRecDepth 4000 in
theorem T12_newGoal_b32 : ∀ (M : MM) (a0 : Nat) (a1 : Int32) (a2 : Int32), X Lv i12_newGoal 32 [(0, vr a0), (1, vi a1), (2, vi a2)] [] M (f12_newGoal_b32 M a0 a1 a2) := by
  obtain ⟨d32, d33, d36, d39, d40, d43, d46, d47, d48, d51, d52, d55, d56, d57, d58, d59, d60, d61, d62, d63, d66, d67, d70, -⟩ := dd12_newGoal_b32
  refine LP4_i (P := fun M a0 a1 a2 o => X Lv i12_newGoal 32 [(0, vr a0), (1, vi a1), (2, vi a2)] [] M o) (fun _ _ _ _ => X_none) (fun rc ih M a0 a1 a2 => ?_) FU
  unfold f12_newGoal_b32_body
  refine X_aloadn 0 d32 rfl ?_
  refine X_cVi (as := []) d33 cv_x12_181 ⟨by decide, by decide⟩ rfl (Nat.le_of_ble_eq_true rfl) (T12_isGood M a0) (fun r33 M33 _ => ?_)
  refine X_if_eq (t := 73) d36 rfl (fun h36 => ?_) (fun h36 => ?_)
  · exact T12_newGoal_b73 M33 a0 a1 a2
  · refine X_aloadn 0 d39 rfl ?_
    refine X_cVi (as := []) d40 cv_x12_200 ⟨by decide, by decide⟩ rfl (Nat.le_of_ble_eq_true rfl) (T12_isName M33 a0) (fun r40 M40 _ => ?_)
    refine X_if_eq (t := 73) d43 rfl (fun h43 => ?_) (fun h43 => ?_)
    · exact T12_newGoal_b73 M40 a0 a1 a2
    · refine X_iloadn 2 d46 rfl ?_
      refine X_iconst k_i_3 d47 ?_
      refine X_icmp_ge (t := 73) d48 rfl (fun h48 => ?_) (fun h48 => ?_)
      · exact T12_newGoal_b73 M40 a0 a1 a2
      · refine X_aloadn 0 d51 rfl ?_
        refine X_getR d52 fg_x12_19 ?_
        refine X_iloadn 1 d55 rfl ?_
        refine X_iconst k_i_3 d56 ?_
        refine X_iadd d57 ?_
        refine X_iloadn 2 d58 rfl ?_
        refine X_iadd d59 ?_
        refine X_aloadn 0 d60 rfl ?_
        refine X_iconst k_i_1 d61 ?_
        refine X_iconst k_i_1 d62 ?_
        refine X_cVi (as := [vi (1 : Int32), vi (1 : Int32)]) d63 cv_x12_212 ⟨by decide, by decide⟩ rfl (Nat.le_of_ble_eq_true rfl) (T12_oneOf M40 a0 (1 : Int32) (1 : Int32)) (fun r63 M63 _ => ?_)
        refine X_iastore d66 ?_
        refine X_bM fun M66 _ => ?_
        refine X_inc (lv' := [(2, vi (a2 + (1 : Int32))), (0, vr a0), (1, vi a1)]) 2 d67 k_i_1 rfl (by decide) rfl ?_
        refine X_goto (t := 32) d70 rfl ?_
        refine X_sub [1, 2, 0] rfl ?_
        exact ih M66 a0 a1 (a2 + (1 : Int32))

theorem dd12_newGoal : AllD (ib i12_newGoal) [(0, .bipush 24, 2), (2, .bipush 6, 2), (4, .aload_n 0, 1), (5, .getfield 7, 3), (8, .bipush 7, 2), (10, .iaload, 1), (11, .imul, 1), (12, .iadd, 1), (13, .istore_n 1, 1), (14, .aload_n 0, 1), (15, .invokevirtual 185, 3), (18, .aload_n 0, 1), (19, .getfield 19, 3), (22, .iload_n 1, 1), (23, .aload_n 0, 1), (24, .iconst 1, 1), (25, .iconst 0, 1), (26, .invokevirtual 212, 3), (29, .iastore, 1), (30, .iconst 0, 1), (31, .istore_n 2, 1)] := allD_of (by decide +kernel)
def f12_newGoal (M : MM) (a0 : Nat) : Option MM :=
  aO M a0 12 <|
  aA M (mR M a0 1) 0 (7 : Int32) <|
  bW ((24 : Int32) + ((6 : Int32) * (mI M (mR M a0 1) (7 : Int32).toNatClampNeg))) fun v13 =>
  aO M a0 12 <|
  cV (f12_nextToken M a0) fun M15 =>
  aO M15 a0 12 <|
  aO M15 a0 12 <|
  cI (f12_oneOf M15 a0 (1 : Int32) (0 : Int32)) fun r26 M26 =>
  aA M26 (mR M15 a0 4) 0 v13 <|
  bM (sI M26 (mR M15 a0 4) v13.toNatClampNeg r26) fun M29 =>
  f12_newGoal_b32 M29 a0 v13 (0 : Int32)
set_option maxRecDepth 4000 in
theorem T12_newGoal (M : MM) (a0 : Nat) : ∀ q, f12_newGoal M a0 = some q → Run i12_newGoal [vr a0] M (Lv q) := by
  obtain ⟨d0, d2, d4, d5, d8, d10, d11, d12, d13, d14, d15, d18, d19, d22, d23, d24, d25, d26, d29, d30, d31, -⟩ := dd12_newGoal
  refine Run_of_X (by decide) (Nat.le_of_ble_eq_true rfl) ?_
  show X Lv i12_newGoal 0 [(0, vr a0)] [] M _
  unfold f12_newGoal
  refine X_bipush k_b_24 d0 ?_
  refine X_bipush k_b_6 d2 ?_
  refine X_aloadn 0 d4 rfl ?_
  refine X_getR d5 fg_x12_7 ?_
  refine X_bipush k_b_7 d8 ?_
  refine X_iaload d10 ?_
  refine X_imul d11 ?_
  refine X_iadd d12 ?_
  refine X_bWi fun v13 _ => ?_
  refine X_istoren (lv' := [(1, vi v13), (0, vr a0)]) d13 (by decide) rfl ?_
  refine X_aloadn 1 d14 rfl ?_
  refine X_cVv (as := []) d15 cv_x12_185 ⟨by decide, by decide⟩ rfl (Nat.le_of_ble_eq_true rfl) (T12_nextToken M a0) (fun M15 _ => ?_)
  refine X_aloadn 1 d18 rfl ?_
  refine X_getR d19 fg_x12_19 ?_
  refine X_iloadn 0 d22 rfl ?_
  refine X_aloadn 1 d23 rfl ?_
  refine X_iconst k_i_1 d24 ?_
  refine X_iconst k_i_0 d25 ?_
  refine X_cVi (as := [vi (1 : Int32), vi (0 : Int32)]) d26 cv_x12_212 ⟨by decide, by decide⟩ rfl (Nat.le_of_ble_eq_true rfl) (T12_oneOf M15 a0 (1 : Int32) (0 : Int32)) (fun r26 M26 _ => ?_)
  refine X_iastore d29 ?_
  refine X_bM fun M29 _ => ?_
  refine X_iconst k_i_0 d30 ?_
  refine X_istoren (lv' := [(2, vi (0 : Int32)), (1, vi v13), (0, vr a0)]) d31 (by decide) rfl ?_
  refine X_sub [2, 1, 0] rfl ?_
  exact T12_newGoal_b32 M29 a0 v13 (0 : Int32)

theorem dd12_newName_b37 : AllD (ib i12_newName) [(37, .aload_n 0, 1), (38, .iconst 3, 1), (39, .invokevirtual 206, 3)] := allD_of (by decide +kernel)
def f12_newName_b37 (K42 : MM → Nat → Int32 → Option MM) (M : MM) (a0 : Nat) (a1 : Int32) : Option MM :=
  aO M a0 12 <|
  cV (f12_fails M a0 (3 : Int32)) fun M39 =>
  K42 M39 a0 a1
set_option maxRecDepth 4000 in
theorem T12_newName_b37 {K42 : MM → Nat → Int32 → Option MM} (hK42 : ∀ (M : MM) (a0 : Nat) (a1 : Int32), X Lv i12_newName 42 [(0, vr a0), (1, vi a1)] [] M (K42 M a0 a1)) : ∀ (M : MM) (a0 : Nat) (a1 : Int32), X Lv i12_newName 37 [(0, vr a0), (1, vi a1)] [] M (f12_newName_b37 K42 M a0 a1) := by
  obtain ⟨d37, d38, d39, -⟩ := dd12_newName_b37
  intro M a0 a1
  unfold f12_newName_b37
  refine X_aloadn 0 d37 rfl ?_
  refine X_iconst k_i_3 d38 ?_
  refine X_cVv (as := [vi (3 : Int32)]) d39 cv_x12_206 ⟨by decide, by decide⟩ rfl (Nat.le_of_ble_eq_true rfl) (T12_fails M a0 (3 : Int32)) (fun M39 _ => ?_)
  exact hK42 M39 a0 a1

theorem dd12_newName_b86 : AllD (ib i12_newName) [(86, .aload_n 0, 1), (87, .invokevirtual 209, 3), (90, .return_, 1)] := allD_of (by decide +kernel)
def f12_newName_b86 (M : MM) (a0 : Nat) : Option MM :=
  aO M a0 12 <|
  cV (f12_goOn M a0) fun M87 =>
  some M87
set_option maxRecDepth 4000 in
theorem T12_newName_b86 : ∀ (M : MM) (a0 : Nat), X Lv i12_newName 86 [(0, vr a0)] [] M (f12_newName_b86 M a0) := by
  obtain ⟨d86, d87, d90, -⟩ := dd12_newName_b86
  intro M a0
  unfold f12_newName_b86
  refine X_aloadn 0 d86 rfl ?_
  refine X_cVv (as := []) d87 cv_x12_209 ⟨by decide, by decide⟩ rfl (Nat.le_of_ble_eq_true rfl) (T12_goOn M a0) (fun M87 _ => ?_)
  exact X_vreturn d90 rfl rfl

theorem dd12_newName_b42 : AllD (ib i12_newName) [(42, .aload_n 0, 1), (43, .invokevirtual 181, 3), (46, .ifCond .eq 40, 3), (49, .aload_n 0, 1), (50, .getfield 13, 3), (53, .bipush 12, 2), (55, .bipush 6, 2), (57, .iload_n 1, 1), (58, .imul, 1), (59, .iadd, 1), (60, .aload_n 0, 1), (61, .getfield 7, 3), (64, .iconst 4, 1), (65, .iload_n 1, 1), (66, .iadd, 1), (67, .iaload, 1), (68, .iadd, 1), (69, .aload_n 0, 1), (70, .getfield 162, 3), (73, .iastore, 1), (74, .aload_n 0, 1), (75, .getfield 7, 3), (78, .iconst 4, 1), (79, .iload_n 1, 1), (80, .iadd, 1), (81, .dup2, 1), (82, .iaload, 1), (83, .iconst 1, 1), (84, .iadd, 1), (85, .iastore, 1)] := allD_of (by decide +kernel)
def f12_newName_b42 (M : MM) (a0 : Nat) (a1 : Int32) : Option MM :=
  aO M a0 12 <|
  cI (f12_isGood M a0) fun r43 M43 =>
  if r43 = 0 then
    f12_newName_b86 M43 a0
  else
    aO M43 a0 12 <|
    aO M43 a0 12 <|
    aA M43 (mR M43 a0 1) 0 ((4 : Int32) + a1) <|
    aO M43 a0 12 <|
    aA M43 (mR M43 a0 2) 0 (((12 : Int32) + ((6 : Int32) * a1)) + (mI M43 (mR M43 a0 1) ((4 : Int32) + a1).toNatClampNeg)) <|
    bM (sI M43 (mR M43 a0 2) (((12 : Int32) + ((6 : Int32) * a1)) + (mI M43 (mR M43 a0 1) ((4 : Int32) + a1).toNatClampNeg)).toNatClampNeg (mI M43 a0 12)) fun M73 =>
    aO M73 a0 12 <|
    aA M73 (mR M73 a0 1) 0 ((4 : Int32) + a1) <|
    aA M73 (mR M73 a0 1) 0 ((4 : Int32) + a1) <|
    bM (sI M73 (mR M73 a0 1) ((4 : Int32) + a1).toNatClampNeg ((mI M73 (mR M73 a0 1) ((4 : Int32) + a1).toNatClampNeg) + (1 : Int32))) fun M85 =>
    f12_newName_b86 M85 a0
set_option maxRecDepth 4000 in
theorem T12_newName_b42 : ∀ (M : MM) (a0 : Nat) (a1 : Int32), X Lv i12_newName 42 [(0, vr a0), (1, vi a1)] [] M (f12_newName_b42 M a0 a1) := by
  obtain ⟨d42, d43, d46, d49, d50, d53, d55, d57, d58, d59, d60, d61, d64, d65, d66, d67, d68, d69, d70, d73, d74, d75, d78, d79, d80, d81, d82, d83, d84, d85, -⟩ := dd12_newName_b42
  intro M a0 a1
  unfold f12_newName_b42
  refine X_aloadn 0 d42 rfl ?_
  refine X_cVi (as := []) d43 cv_x12_181 ⟨by decide, by decide⟩ rfl (Nat.le_of_ble_eq_true rfl) (T12_isGood M a0) (fun r43 M43 _ => ?_)
  refine X_if_eq (t := 86) d46 rfl (fun h46 => ?_) (fun h46 => ?_)
  · refine X_sub [0] rfl ?_
    exact T12_newName_b86 M43 a0
  · refine X_aloadn 0 d49 rfl ?_
    refine X_getR d50 fg_x12_13 ?_
    refine X_bipush k_b_12 d53 ?_
    refine X_bipush k_b_6 d55 ?_
    refine X_iloadn 1 d57 rfl ?_
    refine X_imul d58 ?_
    refine X_iadd d59 ?_
    refine X_aloadn 0 d60 rfl ?_
    refine X_getR d61 fg_x12_7 ?_
    refine X_iconst k_i_4 d64 ?_
    refine X_iloadn 1 d65 rfl ?_
    refine X_iadd d66 ?_
    refine X_iaload d67 ?_
    refine X_iadd d68 ?_
    refine X_aloadn 0 d69 rfl ?_
    refine X_getI d70 fg_x12_162 ?_
    refine X_iastore d73 ?_
    refine X_bM fun M73 _ => ?_
    refine X_aloadn 0 d74 rfl ?_
    refine X_getR d75 fg_x12_7 ?_
    refine X_iconst k_i_4 d78 ?_
    refine X_iloadn 1 d79 rfl ?_
    refine X_iadd d80 ?_
    refine X_dup2 d81 ?_
    refine X_iaload d82 ?_
    refine X_iconst k_i_1 d83 ?_
    refine X_iadd d84 ?_
    refine X_iastore d85 ?_
    refine X_bM fun M85 _ => ?_
    refine X_sub [0] rfl ?_
    exact T12_newName_b86 M85 a0

theorem dd12_newName : AllD (ib i12_newName) [(0, .aload_n 0, 1), (1, .invokevirtual 185, 3), (4, .aload_n 0, 1), (5, .invokevirtual 200, 3), (8, .ifCond .ne 11, 3), (11, .aload_n 0, 1), (12, .iconst 2, 1), (13, .invokevirtual 206, 3), (16, .goto 26, 3), (19, .aload_n 0, 1), (20, .iconst 1, 1), (21, .iconst 0, 1), (22, .invokevirtual 203, 3), (25, .ifCond .ge 12, 3), (28, .aload_n 0, 1), (29, .iconst 1, 1), (30, .iconst 1, 1), (31, .invokevirtual 203, 3), (34, .ifCond .lt 8, 3)] := allD_of (by decide +kernel)
def f12_newName (M : MM) (a0 : Nat) (a1 : Int32) : Option MM :=
  aO M a0 12 <|
  cV (f12_nextToken M a0) fun M1 =>
  aO M1 a0 12 <|
  cI (f12_isName M1 a0) fun r5 M5 =>
  if r5 = 0 then
    aO M5 a0 12 <|
    cV (f12_fails M5 a0 (2 : Int32)) fun M13 =>
    f12_newName_b42 M13 a0 a1
  else
    aO M5 a0 12 <|
    cI (f12_called M5 a0 (1 : Int32) (0 : Int32)) fun r22 M22 =>
    if 0 ≤ r22 then
      (f12_newName_b37 f12_newName_b42) M22 a0 a1
    else
      aO M22 a0 12 <|
      cI (f12_called M22 a0 (1 : Int32) (1 : Int32)) fun r31 M31 =>
      if r31 < 0 then
        f12_newName_b42 M31 a0 a1
      else
        (f12_newName_b37 f12_newName_b42) M31 a0 a1
set_option maxRecDepth 4000 in
theorem T12_newName (M : MM) (a0 : Nat) (a1 : Int32) : ∀ q, f12_newName M a0 a1 = some q → Run i12_newName [vr a0, vi a1] M (Lv q) := by
  obtain ⟨d0, d1, d4, d5, d8, d11, d12, d13, d16, d19, d20, d21, d22, d25, d28, d29, d30, d31, d34, -⟩ := dd12_newName
  refine Run_of_X (by decide) (Nat.le_of_ble_eq_true rfl) ?_
  show X Lv i12_newName 0 [(0, vr a0), (1, vi a1)] [] M _
  unfold f12_newName
  refine X_aloadn 0 d0 rfl ?_
  refine X_cVv (as := []) d1 cv_x12_185 ⟨by decide, by decide⟩ rfl (Nat.le_of_ble_eq_true rfl) (T12_nextToken M a0) (fun M1 _ => ?_)
  refine X_aloadn 0 d4 rfl ?_
  refine X_cVi (as := []) d5 cv_x12_200 ⟨by decide, by decide⟩ rfl (Nat.le_of_ble_eq_true rfl) (T12_isName M1 a0) (fun r5 M5 _ => ?_)
  refine X_if_ne (t := 19) d8 rfl (fun h8 => ?_) (fun h8 => ?_)
  · refine X_aloadn 0 d11 rfl ?_
    refine X_iconst k_i_2 d12 ?_
    refine X_cVv (as := [vi (2 : Int32)]) d13 cv_x12_206 ⟨by decide, by decide⟩ rfl (Nat.le_of_ble_eq_true rfl) (T12_fails M5 a0 (2 : Int32)) (fun M13 _ => ?_)
    refine X_goto (t := 42) d16 rfl ?_
    exact T12_newName_b42 M13 a0 a1
  · refine X_aloadn 0 d19 rfl ?_
    refine X_iconst k_i_1 d20 ?_
    refine X_iconst k_i_0 d21 ?_
    refine X_cVi (as := [vi (1 : Int32), vi (0 : Int32)]) d22 cv_x12_203 ⟨by decide, by decide⟩ rfl (Nat.le_of_ble_eq_true rfl) (T12_called M5 a0 (1 : Int32) (0 : Int32)) (fun r22 M22 _ => ?_)
    refine X_if_ge (t := 37) d25 rfl (fun h25 => ?_) (fun h25 => ?_)
    · exact (T12_newName_b37 T12_newName_b42) M22 a0 a1
    · refine X_aloadn 0 d28 rfl ?_
      refine X_iconst k_i_1 d29 ?_
      refine X_iconst k_i_1 d30 ?_
      refine X_cVi (as := [vi (1 : Int32), vi (1 : Int32)]) d31 cv_x12_203 ⟨by decide, by decide⟩ rfl (Nat.le_of_ble_eq_true rfl) (T12_called M22 a0 (1 : Int32) (1 : Int32)) (fun r31 M31 _ => ?_)
      refine X_if_lt (t := 42) d34 rfl (fun h34 => ?_) (fun h34 => ?_)
      · exact T12_newName_b42 M31 a0 a1
      · exact (T12_newName_b37 T12_newName_b42) M31 a0 a1

theorem dd12_newRule_b218 : AllD (ib i12_newRule) [(218, .aload_n 0, 1), (219, .getfield 16, 3), (222, .iload_n 1, 1), (223, .bipush 6, 2), (225, .iadd, 1), (226, .aload_n 0, 1), (227, .getfield 162, 3), (230, .iastore, 1), (231, .aload_n 0, 1), (232, .invokevirtual 209, 3)] := allD_of (by decide +kernel)
def f12_newRule_b218 (K235 : MM → Nat → Option MM) (M : MM) (a0 : Nat) (a1 : Int32) : Option MM :=
  aO M a0 12 <|
  aO M a0 12 <|
  aA M (mR M a0 3) 0 (a1 + (6 : Int32)) <|
  bM (sI M (mR M a0 3) (a1 + (6 : Int32)).toNatClampNeg (mI M a0 12)) fun M230 =>
  aO M230 a0 12 <|
  cV (f12_goOn M230 a0) fun M232 =>
  K235 M232 a0
set_option maxRecDepth 4000 in
theorem T12_newRule_b218 {K235 : MM → Nat → Option MM} (hK235 : ∀ (M : MM) (a0 : Nat), X Lv i12_newRule 235 [(0, vr a0)] [] M (K235 M a0)) : ∀ (M : MM) (a0 : Nat) (a1 : Int32), X Lv i12_newRule 218 [(0, vr a0), (1, vi a1)] [] M (f12_newRule_b218 K235 M a0 a1) := by
  obtain ⟨d218, d219, d222, d223, d225, d226, d227, d230, d231, d232, -⟩ := dd12_newRule_b218
  intro M a0 a1
  unfold f12_newRule_b218
  refine X_aloadn 0 d218 rfl ?_
  refine X_getR d219 fg_x12_16 ?_
  refine X_iloadn 1 d222 rfl ?_
  refine X_bipush k_b_6 d223 ?_
  refine X_iadd d225 ?_
  refine X_aloadn 0 d226 rfl ?_
  refine X_getI d227 fg_x12_162 ?_
  refine X_iastore d230 ?_
  refine X_bM fun M230 _ => ?_
  refine X_aloadn 0 d231 rfl ?_
  refine X_cVv (as := []) d232 cv_x12_209 ⟨by decide, by decide⟩ rfl (Nat.le_of_ble_eq_true rfl) (T12_goOn M230 a0) (fun M232 _ => ?_)
  refine X_sub [0] rfl ?_
  exact hK235 M232 a0

theorem dd12_newRule_b235 : AllD (ib i12_newRule) [(235, .aload_n 0, 1), (236, .getfield 7, 3), (239, .bipush 6, 2), (241, .dup2, 1), (242, .iaload, 1), (243, .iconst 1, 1), (244, .iadd, 1), (245, .iastore, 1), (246, .return_, 1)] := allD_of (by decide +kernel)
def f12_newRule_b235 (M : MM) (a0 : Nat) : Option MM :=
  aO M a0 12 <|
  aA M (mR M a0 1) 0 (6 : Int32) <|
  aA M (mR M a0 1) 0 (6 : Int32) <|
  bM (sI M (mR M a0 1) (6 : Int32).toNatClampNeg ((mI M (mR M a0 1) (6 : Int32).toNatClampNeg) + (1 : Int32))) fun M245 =>
  some M245
set_option maxRecDepth 4000 in
theorem T12_newRule_b235 : ∀ (M : MM) (a0 : Nat), X Lv i12_newRule 235 [(0, vr a0)] [] M (f12_newRule_b235 M a0) := by
  obtain ⟨d235, d236, d239, d241, d242, d243, d244, d245, d246, -⟩ := dd12_newRule_b235
  intro M a0
  unfold f12_newRule_b235
  refine X_aloadn 0 d235 rfl ?_
  refine X_getR d236 fg_x12_7 ?_
  refine X_bipush k_b_6 d239 ?_
  refine X_dup2 d241 ?_
  refine X_iaload d242 ?_
  refine X_iconst k_i_1 d243 ?_
  refine X_iadd d244 ?_
  refine X_iastore d245 ?_
  refine X_bM fun M245 _ => ?_
  exact X_vreturn d246 rfl rfl

theorem dd12_newRule_b145 : AllD (ib i12_newRule) [(145, .aload_n 0, 1), (146, .getfield 16, 3), (149, .iload_n 1, 1), (150, .iconst 3, 1), (151, .iadd, 1), (152, .iload_n 2, 1), (153, .iastore, 1), (154, .aload_n 0, 1), (155, .getfield 16, 3), (158, .iload_n 1, 1), (159, .bipush 6, 2), (161, .iadd, 1), (162, .iconst 1, 1), (163, .iastore, 1), (164, .aload_n 0, 1), (165, .invokevirtual 181, 3), (168, .ifCond .eq 67, 3), (171, .aload_n 0, 1), (172, .ldc 195, 2), (174, .invokevirtual 189, 3), (177, .ifCond .eq 58, 3), (180, .aload_n 0, 1), (181, .invokevirtual 185, 3), (184, .aload_n 0, 1), (185, .getfield 165, 3), (188, .iconst 2, 1), (189, .if_icmp .eq 11, 3), (192, .aload_n 0, 1), (193, .iconst 2, 1), (194, .invokevirtual 206, 3), (197, .goto 21, 3), (200, .aload_n 0, 1), (201, .getfield 162, 3), (204, .iconst 1, 1), (205, .bipush 99, 2), (207, .invokestatic 124, 3), (210, .ifCond .ne 8, 3), (213, .aload_n 0, 1), (214, .iconst 4, 1), (215, .invokevirtual 206, 3)] := allD_of (by decide +kernel)
def f12_newRule_b145 (M : MM) (a0 : Nat) (a1 : Int32) (a2 : Int32) : Option MM :=
  aO M a0 12 <|
  aA M (mR M a0 3) 0 (a1 + (3 : Int32)) <|
  bM (sI M (mR M a0 3) (a1 + (3 : Int32)).toNatClampNeg a2) fun M153 =>
  aO M153 a0 12 <|
  aA M153 (mR M153 a0 3) 0 (a1 + (6 : Int32)) <|
  bM (sI M153 (mR M153 a0 3) (a1 + (6 : Int32)).toNatClampNeg (1 : Int32)) fun M163 =>
  aO M163 a0 12 <|
  cI (f12_isGood M163 a0) fun r165 M165 =>
  if r165 = 0 then
    f12_newRule_b235 M165 a0
  else
    aO M165 a0 12 <|
    cI (f12_isWord M165 a0 (114292 : Int32)) fun r174 M174 =>
    if r174 = 0 then
      f12_newRule_b235 M174 a0
    else
      aO M174 a0 12 <|
      cV (f12_nextToken M174 a0) fun M181 =>
      aO M181 a0 12 <|
      if (mI M181 a0 11) = (2 : Int32) then
        aO M181 a0 12 <|
        cI (f12_in M181 (mI M181 a0 12) (1 : Int32) (99 : Int32)) fun r207 M207 =>
        if r207 = 0 then
          aO M207 a0 12 <|
          cV (f12_fails M207 a0 (4 : Int32)) fun M215 =>
          (f12_newRule_b218 f12_newRule_b235) M215 a0 a1
        else
          (f12_newRule_b218 f12_newRule_b235) M207 a0 a1
      else
        aO M181 a0 12 <|
        cV (f12_fails M181 a0 (2 : Int32)) fun M194 =>
        (f12_newRule_b218 f12_newRule_b235) M194 a0 a1
set_option maxRecDepth 4000 in
theorem T12_newRule_b145 : ∀ (M : MM) (a0 : Nat) (a1 : Int32) (a2 : Int32), X Lv i12_newRule 145 [(0, vr a0), (1, vi a1), (2, vi a2)] [] M (f12_newRule_b145 M a0 a1 a2) := by
  obtain ⟨d145, d146, d149, d150, d151, d152, d153, d154, d155, d158, d159, d161, d162, d163, d164, d165, d168, d171, d172, d174, d177, d180, d181, d184, d185, d188, d189, d192, d193, d194, d197, d200, d201, d204, d205, d207, d210, d213, d214, d215, -⟩ := dd12_newRule_b145
  intro M a0 a1 a2
  unfold f12_newRule_b145
  refine X_aloadn 0 d145 rfl ?_
  refine X_getR d146 fg_x12_16 ?_
  refine X_iloadn 1 d149 rfl ?_
  refine X_iconst k_i_3 d150 ?_
  refine X_iadd d151 ?_
  refine X_iloadn 2 d152 rfl ?_
  refine X_iastore d153 ?_
  refine X_bM fun M153 _ => ?_
  refine X_aloadn 0 d154 rfl ?_
  refine X_getR d155 fg_x12_16 ?_
  refine X_iloadn 1 d158 rfl ?_
  refine X_bipush k_b_6 d159 ?_
  refine X_iadd d161 ?_
  refine X_iconst k_i_1 d162 ?_
  refine X_iastore d163 ?_
  refine X_bM fun M163 _ => ?_
  refine X_aloadn 0 d164 rfl ?_
  refine X_cVi (as := []) d165 cv_x12_181 ⟨by decide, by decide⟩ rfl (Nat.le_of_ble_eq_true rfl) (T12_isGood M163 a0) (fun r165 M165 _ => ?_)
  refine X_if_eq (t := 235) d168 rfl (fun h168 => ?_) (fun h168 => ?_)
  · refine X_sub [0] rfl ?_
    exact T12_newRule_b235 M165 a0
  · refine X_aloadn 0 d171 rfl ?_
    refine X_ldc kc_x12_195 d172 ?_
    refine X_cVi (as := [vi (114292 : Int32)]) d174 cv_x12_189 ⟨by decide, by decide⟩ rfl (Nat.le_of_ble_eq_true rfl) (T12_isWord M165 a0 (114292 : Int32)) (fun r174 M174 _ => ?_)
    refine X_if_eq (t := 235) d177 rfl (fun h177 => ?_) (fun h177 => ?_)
    · refine X_sub [0] rfl ?_
      exact T12_newRule_b235 M174 a0
    · refine X_aloadn 0 d180 rfl ?_
      refine X_cVv (as := []) d181 cv_x12_185 ⟨by decide, by decide⟩ rfl (Nat.le_of_ble_eq_true rfl) (T12_nextToken M174 a0) (fun M181 _ => ?_)
      refine X_aloadn 0 d184 rfl ?_
      refine X_getI d185 fg_x12_165 ?_
      refine X_iconst k_i_2 d188 ?_
      refine X_icmp_eq (t := 200) d189 rfl (fun h189 => ?_) (fun h189 => ?_)
      · refine X_aloadn 0 d200 rfl ?_
        refine X_getI d201 fg_x12_162 ?_
        refine X_iconst k_i_1 d204 ?_
        refine X_bipush k_b_99 d205 ?_
        refine X_cSi (as := [vi (mI M181 a0 12), vi (1 : Int32), vi (99 : Int32)]) d207 cs_x12_124 ⟨by decide, by decide⟩ rfl (Nat.le_of_ble_eq_true rfl) (T12_in M181 (mI M181 a0 12) (1 : Int32) (99 : Int32)) (fun r207 M207 _ => ?_)
        refine X_if_ne (t := 218) d210 rfl (fun h210 => ?_) (fun h210 => ?_)
        · refine X_aloadn 0 d213 rfl ?_
          refine X_iconst k_i_4 d214 ?_
          refine X_cVv (as := [vi (4 : Int32)]) d215 cv_x12_206 ⟨by decide, by decide⟩ rfl (Nat.le_of_ble_eq_true rfl) (T12_fails M207 a0 (4 : Int32)) (fun M215 _ => ?_)
          refine X_sub [0, 1] rfl ?_
          exact (T12_newRule_b218 T12_newRule_b235) M215 a0 a1
        · refine X_sub [0, 1] rfl ?_
          exact (T12_newRule_b218 T12_newRule_b235) M207 a0 a1
      · refine X_aloadn 0 d192 rfl ?_
        refine X_iconst k_i_2 d193 ?_
        refine X_cVv (as := [vi (2 : Int32)]) d194 cv_x12_206 ⟨by decide, by decide⟩ rfl (Nat.le_of_ble_eq_true rfl) (T12_fails M181 a0 (2 : Int32)) (fun M194 _ => ?_)
        refine X_goto (t := 218) d197 rfl ?_
        refine X_sub [0, 1] rfl ?_
        exact (T12_newRule_b218 T12_newRule_b235) M194 a0 a1

theorem dd12_newRule_b104 : AllD (ib i12_newRule) [(104, .aload_n 0, 1), (105, .invokevirtual 181, 3), (108, .ifCond .eq 37, 3), (111, .aload_n 0, 1), (112, .invokevirtual 200, 3), (115, .ifCond .eq 30, 3), (118, .iload_n 2, 1), (119, .iconst 2, 1), (120, .if_icmp .ge 25, 3), (123, .aload_n 0, 1), (124, .getfield 16, 3), (127, .iload_n 1, 1), (128, .iconst 4, 1), (129, .iadd, 1), (130, .iload_n 2, 1), (131, .iadd, 1), (132, .aload_n 0, 1), (133, .iconst 1, 1), (134, .iconst 1, 1), (135, .invokevirtual 212, 3), (138, .iastore, 1), (139, .iinc 2 1, 3), (142, .goto (-38), 3)] := allD_of (by decide +kernel)
def f12_newRule_b104_body (rc : MM → Nat → Int32 → Int32 → Option MM) (M : MM) (a0 : Nat) (a1 : Int32) (a2 : Int32) : Option MM :=
  aO M a0 12 <|
  cI (f12_isGood M a0) fun r105 M105 =>
  if r105 = 0 then
    f12_newRule_b145 M105 a0 a1 a2
  else
    aO M105 a0 12 <|
    cI (f12_isName M105 a0) fun r112 M112 =>
    if r112 = 0 then
      f12_newRule_b145 M112 a0 a1 a2
    else
      if (2 : Int32) ≤ a2 then
        f12_newRule_b145 M112 a0 a1 a2
      else
        aO M112 a0 12 <|
        aO M112 a0 12 <|
        cI (f12_oneOf M112 a0 (1 : Int32) (1 : Int32)) fun r135 M135 =>
        aA M135 (mR M112 a0 3) 0 ((a1 + (4 : Int32)) + a2) <|
        bM (sI M135 (mR M112 a0 3) ((a1 + (4 : Int32)) + a2).toNatClampNeg r135) fun M138 =>
        rc M138 a0 a1 (a2 + (1 : Int32))
def f12_newRule_b104 : MM → Nat → Int32 → Int32 → Option MM := LP4 (f12_newRule_b104_body) FU
set_option maxRecDepth 4000 in
theorem T12_newRule_b104 : ∀ (M : MM) (a0 : Nat) (a1 : Int32) (a2 : Int32), X Lv i12_newRule 104 [(0, vr a0), (1, vi a1), (2, vi a2)] [] M (f12_newRule_b104 M a0 a1 a2) := by
  obtain ⟨d104, d105, d108, d111, d112, d115, d118, d119, d120, d123, d124, d127, d128, d129, d130, d131, d132, d133, d134, d135, d138, d139, d142, -⟩ := dd12_newRule_b104
  refine LP4_i (P := fun M a0 a1 a2 o => X Lv i12_newRule 104 [(0, vr a0), (1, vi a1), (2, vi a2)] [] M o) (fun _ _ _ _ => X_none) (fun rc ih M a0 a1 a2 => ?_) FU
  unfold f12_newRule_b104_body
  refine X_aloadn 0 d104 rfl ?_
  refine X_cVi (as := []) d105 cv_x12_181 ⟨by decide, by decide⟩ rfl (Nat.le_of_ble_eq_true rfl) (T12_isGood M a0) (fun r105 M105 _ => ?_)
  refine X_if_eq (t := 145) d108 rfl (fun h108 => ?_) (fun h108 => ?_)
  · exact T12_newRule_b145 M105 a0 a1 a2
  · refine X_aloadn 0 d111 rfl ?_
    refine X_cVi (as := []) d112 cv_x12_200 ⟨by decide, by decide⟩ rfl (Nat.le_of_ble_eq_true rfl) (T12_isName M105 a0) (fun r112 M112 _ => ?_)
    refine X_if_eq (t := 145) d115 rfl (fun h115 => ?_) (fun h115 => ?_)
    · exact T12_newRule_b145 M112 a0 a1 a2
    · refine X_iloadn 2 d118 rfl ?_
      refine X_iconst k_i_2 d119 ?_
      refine X_icmp_ge (t := 145) d120 rfl (fun h120 => ?_) (fun h120 => ?_)
      · exact T12_newRule_b145 M112 a0 a1 a2
      · refine X_aloadn 0 d123 rfl ?_
        refine X_getR d124 fg_x12_16 ?_
        refine X_iloadn 1 d127 rfl ?_
        refine X_iconst k_i_4 d128 ?_
        refine X_iadd d129 ?_
        refine X_iloadn 2 d130 rfl ?_
        refine X_iadd d131 ?_
        refine X_aloadn 0 d132 rfl ?_
        refine X_iconst k_i_1 d133 ?_
        refine X_iconst k_i_1 d134 ?_
        refine X_cVi (as := [vi (1 : Int32), vi (1 : Int32)]) d135 cv_x12_212 ⟨by decide, by decide⟩ rfl (Nat.le_of_ble_eq_true rfl) (T12_oneOf M112 a0 (1 : Int32) (1 : Int32)) (fun r135 M135 _ => ?_)
        refine X_iastore d138 ?_
        refine X_bM fun M138 _ => ?_
        refine X_inc (lv' := [(2, vi (a2 + (1 : Int32))), (0, vr a0), (1, vi a1)]) 2 d139 k_i_1 rfl (by decide) rfl ?_
        refine X_goto (t := 104) d142 rfl ?_
        refine X_sub [1, 2, 0] rfl ?_
        exact ih M138 a0 a1 (a2 + (1 : Int32))

theorem dd12_newRule_b66 : AllD (ib i12_newRule) [(66, .aload_n 0, 1), (67, .invokevirtual 209, 3), (70, .aload_n 0, 1), (71, .getfield 16, 3), (74, .iload_n 1, 1), (75, .iconst 2, 1), (76, .iadd, 1), (77, .aload_n 0, 1), (78, .iconst 1, 1), (79, .iconst 0, 1), (80, .invokevirtual 212, 3), (83, .iastore, 1), (84, .iconst 0, 1), (85, .istore_n 2, 1), (86, .aload_n 0, 1), (87, .getfield 16, 3), (90, .iload_n 1, 1), (91, .iconst 4, 1), (92, .iadd, 1), (93, .iconst (-1), 1), (94, .iastore, 1), (95, .aload_n 0, 1), (96, .getfield 16, 3), (99, .iload_n 1, 1), (100, .iconst 5, 1), (101, .iadd, 1), (102, .iconst (-1), 1), (103, .iastore, 1)] := allD_of (by decide +kernel)
def f12_newRule_b66 (M : MM) (a0 : Nat) (a1 : Int32) : Option MM :=
  aO M a0 12 <|
  cV (f12_goOn M a0) fun M67 =>
  aO M67 a0 12 <|
  aO M67 a0 12 <|
  cI (f12_oneOf M67 a0 (1 : Int32) (0 : Int32)) fun r80 M80 =>
  aA M80 (mR M67 a0 3) 0 (a1 + (2 : Int32)) <|
  bM (sI M80 (mR M67 a0 3) (a1 + (2 : Int32)).toNatClampNeg r80) fun M83 =>
  aO M83 a0 12 <|
  aA M83 (mR M83 a0 3) 0 (a1 + (4 : Int32)) <|
  bM (sI M83 (mR M83 a0 3) (a1 + (4 : Int32)).toNatClampNeg (-1 : Int32)) fun M94 =>
  aO M94 a0 12 <|
  aA M94 (mR M94 a0 3) 0 (a1 + (5 : Int32)) <|
  bM (sI M94 (mR M94 a0 3) (a1 + (5 : Int32)).toNatClampNeg (-1 : Int32)) fun M103 =>
  f12_newRule_b104 M103 a0 a1 (0 : Int32)
set_option maxRecDepth 4000 in
theorem T12_newRule_b66 : ∀ (M : MM) (a0 : Nat) (a1 : Int32), X Lv i12_newRule 66 [(0, vr a0), (1, vi a1)] [] M (f12_newRule_b66 M a0 a1) := by
  obtain ⟨d66, d67, d70, d71, d74, d75, d76, d77, d78, d79, d80, d83, d84, d85, d86, d87, d90, d91, d92, d93, d94, d95, d96, d99, d100, d101, d102, d103, -⟩ := dd12_newRule_b66
  intro M a0 a1
  unfold f12_newRule_b66
  refine X_aloadn 0 d66 rfl ?_
  refine X_cVv (as := []) d67 cv_x12_209 ⟨by decide, by decide⟩ rfl (Nat.le_of_ble_eq_true rfl) (T12_goOn M a0) (fun M67 _ => ?_)
  refine X_aloadn 0 d70 rfl ?_
  refine X_getR d71 fg_x12_16 ?_
  refine X_iloadn 1 d74 rfl ?_
  refine X_iconst k_i_2 d75 ?_
  refine X_iadd d76 ?_
  refine X_aloadn 0 d77 rfl ?_
  refine X_iconst k_i_1 d78 ?_
  refine X_iconst k_i_0 d79 ?_
  refine X_cVi (as := [vi (1 : Int32), vi (0 : Int32)]) d80 cv_x12_212 ⟨by decide, by decide⟩ rfl (Nat.le_of_ble_eq_true rfl) (T12_oneOf M67 a0 (1 : Int32) (0 : Int32)) (fun r80 M80 _ => ?_)
  refine X_iastore d83 ?_
  refine X_bM fun M83 _ => ?_
  refine X_iconst k_i_0 d84 ?_
  refine X_istoren (lv' := [(2, vi (0 : Int32)), (0, vr a0), (1, vi a1)]) d85 (by decide) rfl ?_
  refine X_aloadn 1 d86 rfl ?_
  refine X_getR d87 fg_x12_16 ?_
  refine X_iloadn 2 d90 rfl ?_
  refine X_iconst k_i_4 d91 ?_
  refine X_iadd d92 ?_
  refine X_iconst k_i_m1 d93 ?_
  refine X_iastore d94 ?_
  refine X_bM fun M94 _ => ?_
  refine X_aloadn 1 d95 rfl ?_
  refine X_getR d96 fg_x12_16 ?_
  refine X_iloadn 2 d99 rfl ?_
  refine X_iconst k_i_5 d100 ?_
  refine X_iadd d101 ?_
  refine X_iconst k_i_m1 d102 ?_
  refine X_iastore d103 ?_
  refine X_bM fun M103 _ => ?_
  refine X_sub [1, 2, 0] rfl ?_
  exact T12_newRule_b104 M103 a0 a1 (0 : Int32)

theorem dd12_newRule : AllD (ib i12_newRule) [(0, .bipush 98, 2), (2, .bipush 7, 2), (4, .aload_n 0, 1), (5, .getfield 7, 3), (8, .bipush 6, 2), (10, .iaload, 1), (11, .imul, 1), (12, .iadd, 1), (13, .istore_n 1, 1), (14, .aload_n 0, 1), (15, .invokevirtual 185, 3), (18, .aload_n 0, 1), (19, .getfield 16, 3), (22, .iload_n 1, 1), (23, .aload_n 0, 1), (24, .iconst 1, 1), (25, .iconst 0, 1), (26, .invokevirtual 212, 3), (29, .iastore, 1), (30, .aload_n 0, 1), (31, .getfield 16, 3), (34, .iload_n 1, 1), (35, .iconst 1, 1), (36, .iadd, 1), (37, .aload_n 0, 1), (38, .iconst 1, 1), (39, .iconst 1, 1), (40, .invokevirtual 212, 3), (43, .iastore, 1), (44, .aload_n 0, 1), (45, .invokevirtual 181, 3), (48, .ifCond .eq 18, 3), (51, .aload_n 0, 1), (52, .sipush 655, 3), (55, .invokevirtual 189, 3), (58, .ifCond .ne 8, 3), (61, .aload_n 0, 1), (62, .iconst 2, 1), (63, .invokevirtual 206, 3)] := allD_of (by decide +kernel)
def f12_newRule (M : MM) (a0 : Nat) : Option MM :=
  aO M a0 12 <|
  aA M (mR M a0 1) 0 (6 : Int32) <|
  bW ((98 : Int32) + ((7 : Int32) * (mI M (mR M a0 1) (6 : Int32).toNatClampNeg))) fun v13 =>
  aO M a0 12 <|
  cV (f12_nextToken M a0) fun M15 =>
  aO M15 a0 12 <|
  aO M15 a0 12 <|
  cI (f12_oneOf M15 a0 (1 : Int32) (0 : Int32)) fun r26 M26 =>
  aA M26 (mR M15 a0 3) 0 v13 <|
  bM (sI M26 (mR M15 a0 3) v13.toNatClampNeg r26) fun M29 =>
  aO M29 a0 12 <|
  aO M29 a0 12 <|
  cI (f12_oneOf M29 a0 (1 : Int32) (1 : Int32)) fun r40 M40 =>
  aA M40 (mR M29 a0 3) 0 (v13 + (1 : Int32)) <|
  bM (sI M40 (mR M29 a0 3) (v13 + (1 : Int32)).toNatClampNeg r40) fun M43 =>
  aO M43 a0 12 <|
  cI (f12_isGood M43 a0) fun r45 M45 =>
  if r45 = 0 then
    f12_newRule_b66 M45 a0 v13
  else
    aO M45 a0 12 <|
    cI (f12_isWord M45 a0 (655 : Int32)) fun r55 M55 =>
    if r55 = 0 then
      aO M55 a0 12 <|
      cV (f12_fails M55 a0 (2 : Int32)) fun M63 =>
      f12_newRule_b66 M63 a0 v13
    else
      f12_newRule_b66 M55 a0 v13
set_option maxRecDepth 4000 in
theorem T12_newRule (M : MM) (a0 : Nat) : ∀ q, f12_newRule M a0 = some q → Run i12_newRule [vr a0] M (Lv q) := by
  obtain ⟨d0, d2, d4, d5, d8, d10, d11, d12, d13, d14, d15, d18, d19, d22, d23, d24, d25, d26, d29, d30, d31, d34, d35, d36, d37, d38, d39, d40, d43, d44, d45, d48, d51, d52, d55, d58, d61, d62, d63, -⟩ := dd12_newRule
  refine Run_of_X (by decide) (Nat.le_of_ble_eq_true rfl) ?_
  show X Lv i12_newRule 0 [(0, vr a0)] [] M _
  unfold f12_newRule
  refine X_bipush k_b_98 d0 ?_
  refine X_bipush k_b_7 d2 ?_
  refine X_aloadn 0 d4 rfl ?_
  refine X_getR d5 fg_x12_7 ?_
  refine X_bipush k_b_6 d8 ?_
  refine X_iaload d10 ?_
  refine X_imul d11 ?_
  refine X_iadd d12 ?_
  refine X_bWi fun v13 _ => ?_
  refine X_istoren (lv' := [(1, vi v13), (0, vr a0)]) d13 (by decide) rfl ?_
  refine X_aloadn 1 d14 rfl ?_
  refine X_cVv (as := []) d15 cv_x12_185 ⟨by decide, by decide⟩ rfl (Nat.le_of_ble_eq_true rfl) (T12_nextToken M a0) (fun M15 _ => ?_)
  refine X_aloadn 1 d18 rfl ?_
  refine X_getR d19 fg_x12_16 ?_
  refine X_iloadn 0 d22 rfl ?_
  refine X_aloadn 1 d23 rfl ?_
  refine X_iconst k_i_1 d24 ?_
  refine X_iconst k_i_0 d25 ?_
  refine X_cVi (as := [vi (1 : Int32), vi (0 : Int32)]) d26 cv_x12_212 ⟨by decide, by decide⟩ rfl (Nat.le_of_ble_eq_true rfl) (T12_oneOf M15 a0 (1 : Int32) (0 : Int32)) (fun r26 M26 _ => ?_)
  refine X_iastore d29 ?_
  refine X_bM fun M29 _ => ?_
  refine X_aloadn 1 d30 rfl ?_
  refine X_getR d31 fg_x12_16 ?_
  refine X_iloadn 0 d34 rfl ?_
  refine X_iconst k_i_1 d35 ?_
  refine X_iadd d36 ?_
  refine X_aloadn 1 d37 rfl ?_
  refine X_iconst k_i_1 d38 ?_
  refine X_iconst k_i_1 d39 ?_
  refine X_cVi (as := [vi (1 : Int32), vi (1 : Int32)]) d40 cv_x12_212 ⟨by decide, by decide⟩ rfl (Nat.le_of_ble_eq_true rfl) (T12_oneOf M29 a0 (1 : Int32) (1 : Int32)) (fun r40 M40 _ => ?_)
  refine X_iastore d43 ?_
  refine X_bM fun M43 _ => ?_
  refine X_aloadn 1 d44 rfl ?_
  refine X_cVi (as := []) d45 cv_x12_181 ⟨by decide, by decide⟩ rfl (Nat.le_of_ble_eq_true rfl) (T12_isGood M43 a0) (fun r45 M45 _ => ?_)
  refine X_if_eq (t := 66) d48 rfl (fun h48 => ?_) (fun h48 => ?_)
  · refine X_sub [1, 0] rfl ?_
    exact T12_newRule_b66 M45 a0 v13
  · refine X_aloadn 1 d51 rfl ?_
    refine X_sipush k_s_655 d52 ?_
    refine X_cVi (as := [vi (655 : Int32)]) d55 cv_x12_189 ⟨by decide, by decide⟩ rfl (Nat.le_of_ble_eq_true rfl) (T12_isWord M45 a0 (655 : Int32)) (fun r55 M55 _ => ?_)
    refine X_if_ne (t := 66) d58 rfl (fun h58 => ?_) (fun h58 => ?_)
    · refine X_aloadn 1 d61 rfl ?_
      refine X_iconst k_i_2 d62 ?_
      refine X_cVv (as := [vi (2 : Int32)]) d63 cv_x12_206 ⟨by decide, by decide⟩ rfl (Nat.le_of_ble_eq_true rfl) (T12_fails M55 a0 (2 : Int32)) (fun M63 _ => ?_)
      refine X_sub [1, 0] rfl ?_
      exact T12_newRule_b66 M63 a0 v13
    · refine X_sub [1, 0] rfl ?_
      exact T12_newRule_b66 M55 a0 v13

theorem dd12_next : AllD (ib i12_next) [(0, .aload_n 0, 1), (1, .iconst 0, 1), (2, .putfield 113, 3), (5, .aload_n 0, 1), (6, .iload_n 1, 1), (7, .invokevirtual 350, 3), (10, .ifCond .eq 11, 3), (13, .aload_n 0, 1), (14, .iload_n 3, 1), (15, .invokevirtual 353, 3), (18, .ifCond .ne 5, 3), (21, .iconst (-1), 1), (22, .ireturn, 1), (23, .aload_n 0, 1), (24, .iload_n 1, 1), (25, .invokevirtual 437, 3), (28, .iload_n 2, 1), (29, .iconst 0, 1), (30, .aload_n 0, 1), (31, .getfield 428, 3), (34, .iconst 1, 1), (35, .isub, 1), (36, .invokestatic 124, 3), (39, .ifCond .eq 26, 3), (42, .aload_n 0, 1), (43, .aload_n 0, 1), (44, .getfield 92, 3), (47, .bipush 6, 2), (49, .aload_n 0, 1), (50, .getfield 101, 3), (53, .iload_n 2, 1), (54, .iaload, 1), (55, .imul, 1), (56, .iload_n 3, 1), (57, .iadd, 1), (58, .iaload, 1), (59, .invokevirtual 434, 3), (62, .goto 4, 3), (65, .iconst (-1), 1), (66, .ireturn, 1)] := allD_of (by decide +kernel)
def f12_next (M : MM) (a0 : Nat) (a1 : Int32) (a2 : Int32) (a3 : Int32) : Option (Int32 × MM) :=
  aO M a0 12 <|
  bM (sI M a0 0 (0 : Int32)) fun M2 =>
  aO M2 a0 12 <|
  cI (f12_isState M2 a0 a1) fun r7 M7 =>
  if r7 = 0 then
    some ((-1 : Int32), M7)
  else
    aO M7 a0 12 <|
    cI (f12_isSign M7 a0 a3) fun r15 M15 =>
    if r15 = 0 then
      some ((-1 : Int32), M15)
    else
      aO M15 a0 12 <|
      cV (f12_layMachine M15 a0 a1) fun M25 =>
      aO M25 a0 12 <|
      cI (f12_in M25 a2 (0 : Int32) ((mI M25 a0 52) - (1 : Int32))) fun r36 M36 =>
      if r36 = 0 then
        some ((-1 : Int32), M36)
      else
        aO M36 a0 12 <|
        aO M36 a0 12 <|
        aA M36 (mR M36 a0 50) 0 a2 <|
        aA M36 (mR M36 a0 44) 0 (((6 : Int32) * (mI M36 (mR M36 a0 50) a2.toNatClampNeg)) + a3) <|
        aO M36 a0 12 <|
        cI (f12_nodeFor M36 a0 (mI M36 (mR M36 a0 44) (((6 : Int32) * (mI M36 (mR M36 a0 50) a2.toNatClampNeg)) + a3).toNatClampNeg)) fun r59 M59 =>
        some (r59, M59)
set_option maxRecDepth 4000 in
theorem T12_next (M : MM) (a0 : Nat) (a1 : Int32) (a2 : Int32) (a3 : Int32) : ∀ q, f12_next M a0 a1 a2 a3 = some q → Run i12_next [vr a0, vi a1, vi a2, vi a3] M (Li q) := by
  obtain ⟨d0, d1, d2, d5, d6, d7, d10, d13, d14, d15, d18, d21, d22, d23, d24, d25, d28, d29, d30, d31, d34, d35, d36, d39, d42, d43, d44, d47, d49, d50, d53, d54, d55, d56, d57, d58, d59, d62, d65, d66, -⟩ := dd12_next
  refine Run_of_X (by decide) (Nat.le_of_ble_eq_true rfl) ?_
  show X Li i12_next 0 [(0, vr a0), (1, vi a1), (2, vi a2), (3, vi a3)] [] M _
  unfold f12_next
  refine X_aloadn 0 d0 rfl ?_
  refine X_iconst k_i_0 d1 ?_
  refine X_putI d2 fp_x12_113 ?_
  refine X_bM fun M2 _ => ?_
  refine X_aloadn 0 d5 rfl ?_
  refine X_iloadn 1 d6 rfl ?_
  refine X_cVi (as := [vi a1]) d7 cv_x12_350 ⟨by decide, by decide⟩ rfl (Nat.le_of_ble_eq_true rfl) (T12_isState M2 a0 a1) (fun r7 M7 _ => ?_)
  refine X_if_eq (t := 21) d10 rfl (fun h10 => ?_) (fun h10 => ?_)
  · refine X_iconst k_i_m1 d21 ?_
    exact X_ireturn d22 rfl rfl
  · refine X_aloadn 0 d13 rfl ?_
    refine X_iloadn 3 d14 rfl ?_
    refine X_cVi (as := [vi a3]) d15 cv_x12_353 ⟨by decide, by decide⟩ rfl (Nat.le_of_ble_eq_true rfl) (T12_isSign M7 a0 a3) (fun r15 M15 _ => ?_)
    refine X_if_ne (t := 23) d18 rfl (fun h18 => ?_) (fun h18 => ?_)
    · refine X_iconst k_i_m1 d21 ?_
      exact X_ireturn d22 rfl rfl
    · refine X_aloadn 0 d23 rfl ?_
      refine X_iloadn 1 d24 rfl ?_
      refine X_cVv (as := [vi a1]) d25 cv_x12_437 ⟨by decide, by decide⟩ rfl (Nat.le_of_ble_eq_true rfl) (T12_layMachine M15 a0 a1) (fun M25 _ => ?_)
      refine X_iloadn 2 d28 rfl ?_
      refine X_iconst k_i_0 d29 ?_
      refine X_aloadn 0 d30 rfl ?_
      refine X_getI d31 fg_x12_428 ?_
      refine X_iconst k_i_1 d34 ?_
      refine X_isub d35 ?_
      refine X_cSi (as := [vi a2, vi (0 : Int32), vi ((mI M25 a0 52) - (1 : Int32))]) d36 cs_x12_124 ⟨by decide, by decide⟩ rfl (Nat.le_of_ble_eq_true rfl) (T12_in M25 a2 (0 : Int32) ((mI M25 a0 52) - (1 : Int32))) (fun r36 M36 _ => ?_)
      refine X_if_eq (t := 65) d39 rfl (fun h39 => ?_) (fun h39 => ?_)
      · refine X_iconst k_i_m1 d65 ?_
        exact X_ireturn d66 rfl rfl
      · refine X_aloadn 0 d42 rfl ?_
        refine X_aloadn 0 d43 rfl ?_
        refine X_getR d44 fg_x12_92 ?_
        refine X_bipush k_b_6 d47 ?_
        refine X_aloadn 0 d49 rfl ?_
        refine X_getR d50 fg_x12_101 ?_
        refine X_iloadn 2 d53 rfl ?_
        refine X_iaload d54 ?_
        refine X_imul d55 ?_
        refine X_iloadn 3 d56 rfl ?_
        refine X_iadd d57 ?_
        refine X_iaload d58 ?_
        refine X_cVi (as := [vi (mI M36 (mR M36 a0 44) (((6 : Int32) * (mI M36 (mR M36 a0 50) a2.toNatClampNeg)) + a3).toNatClampNeg)]) d59 cv_x12_434 ⟨by decide, by decide⟩ rfl (Nat.le_of_ble_eq_true rfl) (T12_nodeFor M36 a0 (mI M36 (mR M36 a0 44) (((6 : Int32) * (mI M36 (mR M36 a0 50) a2.toNatClampNeg)) + a3).toNatClampNeg)) (fun r59 M59 _ => ?_)
        refine X_goto (t := 66) d62 rfl ?_
        exact X_ireturn d66 rfl rfl

theorem dd12_now : AllD (ib i12_now) [(0, .aload_n 0, 1), (1, .iconst 0, 1), (2, .putfield 113, 3), (5, .aload_n 0, 1), (6, .getfield 236, 3), (9, .ifCond .ne 6, 3), (12, .bipush (-2), 2), (14, .ireturn, 1), (15, .iload_n 1, 1), (16, .bipush 10, 2), (18, .bipush 9, 2), (20, .aload_n 0, 1), (21, .getfield 255, 3), (24, .iadd, 1), (25, .invokestatic 124, 3), (28, .ifCond .eq 20, 3), (31, .aload_n 0, 1), (32, .getfield 29, 3), (35, .aload_n 0, 1), (36, .getfield 255, 3), (39, .iconst 1, 1), (40, .isub, 1), (41, .iload_n 1, 1), (42, .bipush 10, 2), (44, .isub, 1), (45, .isub, 1), (46, .iaload, 1), (47, .ireturn, 1), (48, .iload_n 1, 1), (49, .ifCond .ne 10, 3), (52, .aload_n 0, 1), (53, .getfield 252, 3), (56, .goto 49, 3), (59, .iload_n 1, 1), (60, .iconst 1, 1), (61, .if_icmp .ne 10, 3), (64, .aload_n 0, 1), (65, .getfield 255, 3), (68, .goto 37, 3), (71, .iload_n 1, 1), (72, .iconst 2, 1), (73, .if_icmp .ne 30, 3), (76, .aload_n 0, 1), (77, .aload_n 0, 1), (78, .getfield 252, 3), (81, .aload_n 0, 1), (82, .getfield 29, 3), (85, .aload_n 0, 1), (86, .getfield 255, 3), (89, .invokevirtual 264, 3), (92, .ifCond .eq 7, 3), (95, .iconst 1, 1), (96, .goto 9, 3), (99, .iconst 0, 1), (100, .goto 5, 3), (103, .bipush (-2), 2), (105, .ireturn, 1)] := allD_of (by decide +kernel)
def f12_now (M : MM) (a0 : Nat) (a1 : Int32) : Option (Int32 × MM) :=
  aO M a0 12 <|
  bM (sI M a0 0 (0 : Int32)) fun M2 =>
  aO M2 a0 12 <|
  if (mI M2 a0 19) = 0 then
    some ((-2 : Int32), M2)
  else
    aO M2 a0 12 <|
    cI (f12_in M2 a1 (10 : Int32) ((9 : Int32) + (mI M2 a0 21))) fun r25 M25 =>
    if r25 = 0 then
      if a1 = 0 then
        aO M25 a0 12 <|
        some (mI M25 a0 20, M25)
      else
        if a1 = (1 : Int32) then
          aO M25 a0 12 <|
          some (mI M25 a0 21, M25)
        else
          if a1 = (2 : Int32) then
            aO M25 a0 12 <|
            aO M25 a0 12 <|
            aO M25 a0 12 <|
            aO M25 a0 12 <|
            cI (f12_isAt M25 a0 (mI M25 a0 20) (mR M25 a0 17) (mI M25 a0 21)) fun r89 M89 =>
            if r89 = 0 then
              some ((0 : Int32), M89)
            else
              some ((1 : Int32), M89)
          else
            some ((-2 : Int32), M25)
    else
      aO M25 a0 12 <|
      aO M25 a0 12 <|
      aA M25 (mR M25 a0 17) 0 (((mI M25 a0 21) - (1 : Int32)) - (a1 - (10 : Int32))) <|
      some (mI M25 (mR M25 a0 17) (((mI M25 a0 21) - (1 : Int32)) - (a1 - (10 : Int32))).toNatClampNeg, M25)
set_option maxRecDepth 4000 in
theorem T12_now (M : MM) (a0 : Nat) (a1 : Int32) : ∀ q, f12_now M a0 a1 = some q → Run i12_now [vr a0, vi a1] M (Li q) := by
  obtain ⟨d0, d1, d2, d5, d6, d9, d12, d14, d15, d16, d18, d20, d21, d24, d25, d28, d31, d32, d35, d36, d39, d40, d41, d42, d44, d45, d46, d47, d48, d49, d52, d53, d56, d59, d60, d61, d64, d65, d68, d71, d72, d73, d76, d77, d78, d81, d82, d85, d86, d89, d92, d95, d96, d99, d100, d103, d105, -⟩ := dd12_now
  refine Run_of_X (by decide) (Nat.le_of_ble_eq_true rfl) ?_
  show X Li i12_now 0 [(0, vr a0), (1, vi a1)] [] M _
  unfold f12_now
  refine X_aloadn 0 d0 rfl ?_
  refine X_iconst k_i_0 d1 ?_
  refine X_putI d2 fp_x12_113 ?_
  refine X_bM fun M2 _ => ?_
  refine X_aloadn 0 d5 rfl ?_
  refine X_getI d6 fg_x12_236 ?_
  refine X_if_ne (t := 15) d9 rfl (fun h9 => ?_) (fun h9 => ?_)
  · refine X_bipush k_b_m2 d12 ?_
    exact X_ireturn d14 rfl rfl
  · refine X_iloadn 1 d15 rfl ?_
    refine X_bipush k_b_10 d16 ?_
    refine X_bipush k_b_9 d18 ?_
    refine X_aloadn 0 d20 rfl ?_
    refine X_getI d21 fg_x12_255 ?_
    refine X_iadd d24 ?_
    refine X_cSi (as := [vi a1, vi (10 : Int32), vi ((9 : Int32) + (mI M2 a0 21))]) d25 cs_x12_124 ⟨by decide, by decide⟩ rfl (Nat.le_of_ble_eq_true rfl) (T12_in M2 a1 (10 : Int32) ((9 : Int32) + (mI M2 a0 21))) (fun r25 M25 _ => ?_)
    refine X_if_eq (t := 48) d28 rfl (fun h28 => ?_) (fun h28 => ?_)
    · refine X_iloadn 1 d48 rfl ?_
      refine X_if_ne (t := 59) d49 rfl (fun h49 => ?_) (fun h49 => ?_)
      · refine X_aloadn 0 d52 rfl ?_
        refine X_getI d53 fg_x12_252 ?_
        refine X_goto (t := 105) d56 rfl ?_
        exact X_ireturn d105 rfl rfl
      · refine X_iloadn 1 d59 rfl ?_
        refine X_iconst k_i_1 d60 ?_
        refine X_icmp_ne (t := 71) d61 rfl (fun h61 => ?_) (fun h61 => ?_)
        · refine X_aloadn 0 d64 rfl ?_
          refine X_getI d65 fg_x12_255 ?_
          refine X_goto (t := 105) d68 rfl ?_
          exact X_ireturn d105 rfl rfl
        · refine X_iloadn 1 d71 rfl ?_
          refine X_iconst k_i_2 d72 ?_
          refine X_icmp_ne (t := 103) d73 rfl (fun h73 => ?_) (fun h73 => ?_)
          · refine X_aloadn 0 d76 rfl ?_
            refine X_aloadn 0 d77 rfl ?_
            refine X_getI d78 fg_x12_252 ?_
            refine X_aloadn 0 d81 rfl ?_
            refine X_getR d82 fg_x12_29 ?_
            refine X_aloadn 0 d85 rfl ?_
            refine X_getI d86 fg_x12_255 ?_
            refine X_cVi (as := [vi (mI M25 a0 20), vr (mR M25 a0 17), vi (mI M25 a0 21)]) d89 cv_x12_264 ⟨by decide, by decide⟩ rfl (Nat.le_of_ble_eq_true rfl) (T12_isAt M25 a0 (mI M25 a0 20) (mR M25 a0 17) (mI M25 a0 21)) (fun r89 M89 _ => ?_)
            refine X_if_eq (t := 99) d92 rfl (fun h92 => ?_) (fun h92 => ?_)
            · refine X_iconst k_i_0 d99 ?_
              refine X_goto (t := 105) d100 rfl ?_
              exact X_ireturn d105 rfl rfl
            · refine X_iconst k_i_1 d95 ?_
              refine X_goto (t := 105) d96 rfl ?_
              exact X_ireturn d105 rfl rfl
          · refine X_bipush k_b_m2 d103 ?_
            exact X_ireturn d105 rfl rfl
    · refine X_aloadn 0 d31 rfl ?_
      refine X_getR d32 fg_x12_29 ?_
      refine X_aloadn 0 d35 rfl ?_
      refine X_getI d36 fg_x12_255 ?_
      refine X_iconst k_i_1 d39 ?_
      refine X_isub d40 ?_
      refine X_iloadn 1 d41 rfl ?_
      refine X_bipush k_b_10 d42 ?_
      refine X_isub d44 ?_
      refine X_isub d45 ?_
      refine X_iaload d46 ?_
      exact X_ireturn d47 rfl rfl

theorem dd12_outsAre_b18 : AllD (ib i12_outsAre) [(18, .aload_n 0, 1), (19, .iload_n 1, 1), (20, .putfield 131, 3), (23, .return_, 1)] := allD_of (by decide +kernel)
def f12_outsAre_b18 (M : MM) (a0 : Nat) (a1 : Int32) : Option MM :=
  aO M a0 12 <|
  bM (sI M a0 5 a1) fun M20 =>
  some M20
set_option maxRecDepth 4000 in
theorem T12_outsAre_b18 : ∀ (M : MM) (a0 : Nat) (a1 : Int32), X Lv i12_outsAre 18 [(0, vr a0), (1, vi a1)] [] M (f12_outsAre_b18 M a0 a1) := by
  obtain ⟨d18, d19, d20, d23, -⟩ := dd12_outsAre_b18
  intro M a0 a1
  unfold f12_outsAre_b18
  refine X_aloadn 0 d18 rfl ?_
  refine X_iloadn 1 d19 rfl ?_
  refine X_putI d20 fp_x12_131 ?_
  refine X_bM fun M20 _ => ?_
  exact X_vreturn d23 rfl rfl

theorem dd12_outsAre : AllD (ib i12_outsAre) [(0, .iload_n 1, 1), (1, .aload_n 0, 1), (2, .getfield 131, 3), (5, .if_icmp .eq 13, 3), (8, .aload_n 0, 1), (9, .iconst 0, 1), (10, .putfield 243, 3), (13, .aload_n 0, 1), (14, .iconst 0, 1), (15, .putfield 246, 3)] := allD_of (by decide +kernel)
def f12_outsAre (M : MM) (a0 : Nat) (a1 : Int32) : Option MM :=
  aO M a0 12 <|
  if a1 = (mI M a0 5) then
    f12_outsAre_b18 M a0 a1
  else
    aO M a0 12 <|
    bM (sI M a0 31 (0 : Int32)) fun M10 =>
    aO M10 a0 12 <|
    bM (sI M10 a0 49 (0 : Int32)) fun M15 =>
    f12_outsAre_b18 M15 a0 a1
set_option maxRecDepth 4000 in
theorem T12_outsAre (M : MM) (a0 : Nat) (a1 : Int32) : ∀ q, f12_outsAre M a0 a1 = some q → Run i12_outsAre [vr a0, vi a1] M (Lv q) := by
  obtain ⟨d0, d1, d2, d5, d8, d9, d10, d13, d14, d15, -⟩ := dd12_outsAre
  refine Run_of_X (by decide) (Nat.le_of_ble_eq_true rfl) ?_
  show X Lv i12_outsAre 0 [(0, vr a0), (1, vi a1)] [] M _
  unfold f12_outsAre
  refine X_iloadn 1 d0 rfl ?_
  refine X_aloadn 0 d1 rfl ?_
  refine X_getI d2 fg_x12_131 ?_
  refine X_icmp_eq (t := 18) d5 rfl (fun h5 => ?_) (fun h5 => ?_)
  · exact T12_outsAre_b18 M a0 a1
  · refine X_aloadn 0 d8 rfl ?_
    refine X_iconst k_i_0 d9 ?_
    refine X_putZc d10 fp_x12_243 (by decide) ?_
    refine X_bM fun M10 _ => ?_
    refine X_aloadn 0 d13 rfl ?_
    refine X_iconst k_i_0 d14 ?_
    refine X_putZc d15 fp_x12_246 (by decide) ?_
    refine X_bM fun M15 _ => ?_
    exact T12_outsAre_b18 M15 a0 a1

theorem dd12_out : AllD (ib i12_out) [(0, .aload_n 0, 1), (1, .iconst 0, 1), (2, .putfield 113, 3), (5, .aload_n 0, 1), (6, .iload_n 1, 1), (7, .invokevirtual 249, 3), (10, .ifCond .eq 15, 3), (13, .aload_n 0, 1), (14, .getfield 131, 3), (17, .iload_n 1, 1), (18, .invokestatic 134, 3), (21, .iload_n 2, 1), (22, .if_icmp .ne 5, 3), (25, .iconst 0, 1), (26, .ireturn, 1), (27, .aload_n 0, 1), (28, .invokevirtual 261, 3), (31, .aload_n 0, 1), (32, .aload_n 0, 1), (33, .getfield 131, 3), (36, .iconst 1, 1), (37, .iload_n 1, 1), (38, .ishl, 1), (39, .ixor, 1), (40, .invokevirtual 258, 3), (43, .iconst 1, 1), (44, .ireturn, 1)] := allD_of (by decide +kernel)
def f12_out (M : MM) (a0 : Nat) (a1 : Int32) (a2 : Int32) : Option (Int32 × MM) :=
  aO M a0 12 <|
  bM (sI M a0 0 (0 : Int32)) fun M2 =>
  aO M2 a0 12 <|
  cI (f12_isRule M2 a0 a1) fun r7 M7 =>
  if r7 = 0 then
    some ((0 : Int32), M7)
  else
    aO M7 a0 12 <|
    cI (f12_isOf M7 (mI M7 a0 5) a1) fun r18 M18 =>
    if r18 = a2 then
      some ((0 : Int32), M18)
    else
      aO M18 a0 12 <|
      cV (f12_keep M18 a0) fun M28 =>
      aO M28 a0 12 <|
      aO M28 a0 12 <|
      cV (f12_outsAre M28 a0 ((mI M28 a0 5) ^^^ ((1 : Int32) <<< (a1 &&& 31)))) fun M40 =>
      some ((1 : Int32), M40)
set_option maxRecDepth 4000 in
theorem T12_out (M : MM) (a0 : Nat) (a1 : Int32) (a2 : Int32) : ∀ q, f12_out M a0 a1 a2 = some q → Run i12_out [vr a0, vi a1, vi a2] M (Li q) := by
  obtain ⟨d0, d1, d2, d5, d6, d7, d10, d13, d14, d17, d18, d21, d22, d25, d26, d27, d28, d31, d32, d33, d36, d37, d38, d39, d40, d43, d44, -⟩ := dd12_out
  refine Run_of_X (by decide) (Nat.le_of_ble_eq_true rfl) ?_
  show X Li i12_out 0 [(0, vr a0), (1, vi a1), (2, vi a2)] [] M _
  unfold f12_out
  refine X_aloadn 0 d0 rfl ?_
  refine X_iconst k_i_0 d1 ?_
  refine X_putI d2 fp_x12_113 ?_
  refine X_bM fun M2 _ => ?_
  refine X_aloadn 0 d5 rfl ?_
  refine X_iloadn 1 d6 rfl ?_
  refine X_cVi (as := [vi a1]) d7 cv_x12_249 ⟨by decide, by decide⟩ rfl (Nat.le_of_ble_eq_true rfl) (T12_isRule M2 a0 a1) (fun r7 M7 _ => ?_)
  refine X_if_eq (t := 25) d10 rfl (fun h10 => ?_) (fun h10 => ?_)
  · refine X_iconst k_i_0 d25 ?_
    exact X_zreturnc d26 rfl (by decide) rfl
  · refine X_aloadn 0 d13 rfl ?_
    refine X_getI d14 fg_x12_131 ?_
    refine X_iloadn 1 d17 rfl ?_
    refine X_cSi (as := [vi (mI M7 a0 5), vi a1]) d18 cs_x12_134 ⟨by decide, by decide⟩ rfl (Nat.le_of_ble_eq_true rfl) (T12_isOf M7 (mI M7 a0 5) a1) (fun r18 M18 _ => ?_)
    refine X_iloadn 2 d21 rfl ?_
    refine X_icmp_ne (t := 27) d22 rfl (fun h22 => ?_) (fun h22 => ?_)
    · refine X_iconst k_i_0 d25 ?_
      exact X_zreturnc d26 rfl (by decide) rfl
    · refine X_aloadn 0 d27 rfl ?_
      refine X_cVv (as := []) d28 cv_x12_261 ⟨by decide, by decide⟩ rfl (Nat.le_of_ble_eq_true rfl) (T12_keep M18 a0) (fun M28 _ => ?_)
      refine X_aloadn 0 d31 rfl ?_
      refine X_aloadn 0 d32 rfl ?_
      refine X_getI d33 fg_x12_131 ?_
      refine X_iconst k_i_1 d36 ?_
      refine X_iloadn 1 d37 rfl ?_
      refine X_ishl d38 ?_
      refine X_ixor d39 ?_
      refine X_cVv (as := [vi ((mI M28 a0 5) ^^^ ((1 : Int32) <<< (a1 &&& 31)))]) d40 cv_x12_258 ⟨by decide, by decide⟩ rfl (Nat.le_of_ble_eq_true rfl) (T12_outsAre M28 a0 ((mI M28 a0 5) ^^^ ((1 : Int32) <<< (a1 &&& 31)))) (fun M40 _ => ?_)
      refine X_iconst k_i_1 d43 ?_
      exact X_zreturnc d44 rfl (by decide) rfl

theorem dd12_pops_b17 : AllD (ib i12_pops) [(17, .aload_n 0, 1), (18, .iconst 1, 1), (19, .putfield 113, 3), (22, .lconst 0, 1), (23, .lreturn, 1)] := allD_of (by decide +kernel)
def f12_pops_b17 (M : MM) (a0 : Nat) : Option (Int64 × MM) :=
  aO M a0 12 <|
  bM (sI M a0 0 (1 : Int32)) fun M19 =>
  some ((0 : Int64), M19)
set_option maxRecDepth 4000 in
theorem T12_pops_b17 : ∀ (M : MM) (a0 : Nat), X Ll i12_pops 17 [(0, vr a0)] [] M (f12_pops_b17 M a0) := by
  obtain ⟨d17, d18, d19, d22, d23, -⟩ := dd12_pops_b17
  intro M a0
  unfold f12_pops_b17
  refine X_aloadn 0 d17 rfl ?_
  refine X_iconst k_i_1 d18 ?_
  refine X_putI d19 fp_x12_113 ?_
  refine X_bM fun M19 _ => ?_
  refine X_lconst k_l_0 d22 ?_
  exact X_lreturn d23 rfl rfl

theorem dd12_pops : AllD (ib i12_pops) [(0, .aload_n 0, 1), (1, .iload_n 1, 1), (2, .iload_n 2, 1), (3, .invokevirtual 356, 3), (6, .ifCond .eq 11, 3), (9, .aload_n 0, 1), (10, .iload_n 3, 1), (11, .invokevirtual 350, 3), (14, .ifCond .ne 10, 3), (24, .aload_n 0, 1), (25, .invokevirtual 326, 3), (28, .aload_n 0, 1), (29, .aload_n 0, 1), (30, .getfield 50, 3), (33, .iload_n 1, 1), (34, .iload_n 2, 1), (35, .iload_n 3, 1), (36, .invokevirtual 299, 3), (39, .lreturn, 1)] := allD_of (by decide +kernel)
def f12_pops (M : MM) (a0 : Nat) (a1 : Int32) (a2 : Int32) (a3 : Int32) : Option (Int64 × MM) :=
  aO M a0 12 <|
  cI (f12_isHead M a0 a1 a2) fun r3 M3 =>
  if r3 = 0 then
    f12_pops_b17 M3 a0
  else
    aO M3 a0 12 <|
    cI (f12_isState M3 a0 a3) fun r11 M11 =>
    if r11 = 0 then
      f12_pops_b17 M11 a0
    else
      aO M11 a0 12 <|
      cV (f12_layTold M11 a0) fun M25 =>
      aO M25 a0 12 <|
      aO M25 a0 12 <|
      cJ (f12_costOf M25 a0 (mR M25 a0 28) a1 a2 a3) fun r36 M36 =>
      some (r36, M36)
set_option maxRecDepth 4000 in
theorem T12_pops (M : MM) (a0 : Nat) (a1 : Int32) (a2 : Int32) (a3 : Int32) : ∀ q, f12_pops M a0 a1 a2 a3 = some q → Run i12_pops [vr a0, vi a1, vi a2, vi a3] M (Ll q) := by
  obtain ⟨d0, d1, d2, d3, d6, d9, d10, d11, d14, d24, d25, d28, d29, d30, d33, d34, d35, d36, d39, -⟩ := dd12_pops
  refine Run_of_X (by decide) (Nat.le_of_ble_eq_true rfl) ?_
  show X Ll i12_pops 0 [(0, vr a0), (1, vi a1), (2, vi a2), (3, vi a3)] [] M _
  unfold f12_pops
  refine X_aloadn 0 d0 rfl ?_
  refine X_iloadn 1 d1 rfl ?_
  refine X_iloadn 2 d2 rfl ?_
  refine X_cVi (as := [vi a1, vi a2]) d3 cv_x12_356 ⟨by decide, by decide⟩ rfl (Nat.le_of_ble_eq_true rfl) (T12_isHead M a0 a1 a2) (fun r3 M3 _ => ?_)
  refine X_if_eq (t := 17) d6 rfl (fun h6 => ?_) (fun h6 => ?_)
  · refine X_sub [0] rfl ?_
    exact T12_pops_b17 M3 a0
  · refine X_aloadn 0 d9 rfl ?_
    refine X_iloadn 3 d10 rfl ?_
    refine X_cVi (as := [vi a3]) d11 cv_x12_350 ⟨by decide, by decide⟩ rfl (Nat.le_of_ble_eq_true rfl) (T12_isState M3 a0 a3) (fun r11 M11 _ => ?_)
    refine X_if_ne (t := 24) d14 rfl (fun h14 => ?_) (fun h14 => ?_)
    · refine X_sub [0] rfl ?_
      exact T12_pops_b17 M11 a0
    · refine X_aloadn 0 d24 rfl ?_
      refine X_cVv (as := []) d25 cv_x12_326 ⟨by decide, by decide⟩ rfl (Nat.le_of_ble_eq_true rfl) (T12_layTold M11 a0) (fun M25 _ => ?_)
      refine X_aloadn 0 d28 rfl ?_
      refine X_aloadn 0 d29 rfl ?_
      refine X_getR d30 fg_x12_50 ?_
      refine X_iloadn 1 d33 rfl ?_
      refine X_iloadn 2 d34 rfl ?_
      refine X_iloadn 3 d35 rfl ?_
      refine X_cVl (as := [vr (mR M25 a0 28), vi a1, vi a2, vi a3]) d36 cv_x12_299 ⟨by decide, by decide⟩ rfl (Nat.le_of_ble_eq_true rfl) (T12_costOf M25 a0 (mR M25 a0 28) a1 a2 a3) (fun r36 M36 _ => ?_)
      exact X_lreturn d39 rfl rfl

theorem dd12_readLine_b129 : AllD (ib i12_readLine) [(129, .aload_n 0, 1), (130, .invokevirtual 209, 3), (133, .return_, 1)] := allD_of (by decide +kernel)
def f12_readLine_b129 (M : MM) (a0 : Nat) : Option MM :=
  aO M a0 12 <|
  cV (f12_goOn M a0) fun M130 =>
  some M130
set_option maxRecDepth 4000 in
theorem T12_readLine_b129 : ∀ (M : MM) (a0 : Nat), X Lv i12_readLine 129 [(0, vr a0)] [] M (f12_readLine_b129 M a0) := by
  obtain ⟨d129, d130, d133, -⟩ := dd12_readLine_b129
  intro M a0
  unfold f12_readLine_b129
  refine X_aloadn 0 d129 rfl ?_
  refine X_cVv (as := []) d130 cv_x12_209 ⟨by decide, by decide⟩ rfl (Nat.le_of_ble_eq_true rfl) (T12_goOn M a0) (fun M130 _ => ?_)
  exact X_vreturn d133 rfl rfl

theorem dd12_readLine_b109 : AllD (ib i12_readLine) [(109, .aload_n 0, 1), (110, .invokevirtual 181, 3), (113, .ifCond .eq 16, 3), (116, .aload_n 0, 1), (117, .getfield 165, 3), (120, .iconst 3, 1), (121, .if_icmp .eq 8, 3), (124, .aload_n 0, 1), (125, .iconst 2, 1), (126, .invokevirtual 206, 3)] := allD_of (by decide +kernel)
def f12_readLine_b109 (M : MM) (a0 : Nat) : Option MM :=
  aO M a0 12 <|
  cI (f12_isGood M a0) fun r110 M110 =>
  if r110 = 0 then
    f12_readLine_b129 M110 a0
  else
    aO M110 a0 12 <|
    if (mI M110 a0 11) = (3 : Int32) then
      f12_readLine_b129 M110 a0
    else
      aO M110 a0 12 <|
      cV (f12_fails M110 a0 (2 : Int32)) fun M126 =>
      f12_readLine_b129 M126 a0
set_option maxRecDepth 4000 in
theorem T12_readLine_b109 : ∀ (M : MM) (a0 : Nat), X Lv i12_readLine 109 [(0, vr a0)] [] M (f12_readLine_b109 M a0) := by
  obtain ⟨d109, d110, d113, d116, d117, d120, d121, d124, d125, d126, -⟩ := dd12_readLine_b109
  intro M a0
  unfold f12_readLine_b109
  refine X_aloadn 0 d109 rfl ?_
  refine X_cVi (as := []) d110 cv_x12_181 ⟨by decide, by decide⟩ rfl (Nat.le_of_ble_eq_true rfl) (T12_isGood M a0) (fun r110 M110 _ => ?_)
  refine X_if_eq (t := 129) d113 rfl (fun h113 => ?_) (fun h113 => ?_)
  · exact T12_readLine_b129 M110 a0
  · refine X_aloadn 0 d116 rfl ?_
    refine X_getI d117 fg_x12_165 ?_
    refine X_iconst k_i_3 d120 ?_
    refine X_icmp_eq (t := 129) d121 rfl (fun h121 => ?_) (fun h121 => ?_)
    · exact T12_readLine_b129 M110 a0
    · refine X_aloadn 0 d124 rfl ?_
      refine X_iconst k_i_2 d125 ?_
      refine X_cVv (as := [vi (2 : Int32)]) d126 cv_x12_206 ⟨by decide, by decide⟩ rfl (Nat.le_of_ble_eq_true rfl) (T12_fails M110 a0 (2 : Int32)) (fun M126 _ => ?_)
      exact T12_readLine_b129 M126 a0

theorem dd12_readLine : AllD (ib i12_readLine) [(0, .aload_n 0, 1), (1, .ldc 188, 2), (3, .invokevirtual 189, 3), (6, .ifCond .eq 20, 3), (9, .aload_n 0, 1), (10, .iconst 0, 1), (11, .iconst 5, 1), (12, .invokevirtual 215, 3), (15, .ifCond .ne 94, 3), (18, .aload_n 0, 1), (19, .iconst 0, 1), (20, .invokevirtual 218, 3), (23, .goto 86, 3), (26, .aload_n 0, 1), (27, .ldc 192, 2), (29, .invokevirtual 189, 3), (32, .ifCond .eq 21, 3), (35, .aload_n 0, 1), (36, .iconst 1, 1), (37, .bipush 6, 2), (39, .invokevirtual 215, 3), (42, .ifCond .ne 67, 3), (45, .aload_n 0, 1), (46, .iconst 1, 1), (47, .invokevirtual 218, 3), (50, .goto 59, 3), (53, .aload_n 0, 1), (54, .ldc 193, 2), (56, .invokevirtual 189, 3), (59, .ifCond .eq 20, 3), (62, .aload_n 0, 1), (63, .iconst 2, 1), (64, .bipush 14, 2), (66, .invokevirtual 215, 3), (69, .ifCond .ne 40, 3), (72, .aload_n 0, 1), (73, .invokevirtual 221, 3), (76, .goto 33, 3), (79, .aload_n 0, 1), (80, .ldc 194, 2), (82, .invokevirtual 189, 3), (85, .ifCond .eq 19, 3), (88, .aload_n 0, 1), (89, .iconst 3, 1), (90, .iconst 4, 1), (91, .invokevirtual 215, 3), (94, .ifCond .ne 15, 3), (97, .aload_n 0, 1), (98, .invokevirtual 224, 3), (101, .goto 8, 3), (104, .aload_n 0, 1), (105, .iconst 2, 1), (106, .invokevirtual 206, 3)] := allD_of (by decide +kernel)
def f12_readLine (M : MM) (a0 : Nat) : Option MM :=
  aO M a0 12 <|
  cI (f12_isWord M a0 (20579973 : Int32)) fun r3 M3 =>
  if r3 = 0 then
    aO M3 a0 12 <|
    cI (f12_isWord M3 a0 (632046 : Int32)) fun r29 M29 =>
    if r29 = 0 then
      aO M29 a0 12 <|
      cI (f12_isWord M29 a0 (611717 : Int32)) fun r56 M56 =>
      if r56 = 0 then
        aO M56 a0 12 <|
        cI (f12_isWord M56 a0 (244780 : Int32)) fun r82 M82 =>
        if r82 = 0 then
          aO M82 a0 12 <|
          cV (f12_fails M82 a0 (2 : Int32)) fun M106 =>
          f12_readLine_b109 M106 a0
        else
          aO M82 a0 12 <|
          cI (f12_isFull M82 a0 (3 : Int32) (4 : Int32)) fun r91 M91 =>
          if r91 = 0 then
            aO M91 a0 12 <|
            cV (f12_newGoal M91 a0) fun M98 =>
            f12_readLine_b109 M98 a0
          else
            f12_readLine_b109 M91 a0
      else
        aO M56 a0 12 <|
        cI (f12_isFull M56 a0 (2 : Int32) (14 : Int32)) fun r66 M66 =>
        if r66 = 0 then
          aO M66 a0 12 <|
          cV (f12_newRule M66 a0) fun M73 =>
          f12_readLine_b109 M73 a0
        else
          f12_readLine_b109 M66 a0
    else
      aO M29 a0 12 <|
      cI (f12_isFull M29 a0 (1 : Int32) (6 : Int32)) fun r39 M39 =>
      if r39 = 0 then
        aO M39 a0 12 <|
        cV (f12_newName M39 a0 (1 : Int32)) fun M47 =>
        f12_readLine_b109 M47 a0
      else
        f12_readLine_b109 M39 a0
  else
    aO M3 a0 12 <|
    cI (f12_isFull M3 a0 (0 : Int32) (5 : Int32)) fun r12 M12 =>
    if r12 = 0 then
      aO M12 a0 12 <|
      cV (f12_newName M12 a0 (0 : Int32)) fun M20 =>
      f12_readLine_b109 M20 a0
    else
      f12_readLine_b109 M12 a0
set_option maxRecDepth 4000 in
theorem T12_readLine (M : MM) (a0 : Nat) : ∀ q, f12_readLine M a0 = some q → Run i12_readLine [vr a0] M (Lv q) := by
  obtain ⟨d0, d1, d3, d6, d9, d10, d11, d12, d15, d18, d19, d20, d23, d26, d27, d29, d32, d35, d36, d37, d39, d42, d45, d46, d47, d50, d53, d54, d56, d59, d62, d63, d64, d66, d69, d72, d73, d76, d79, d80, d82, d85, d88, d89, d90, d91, d94, d97, d98, d101, d104, d105, d106, -⟩ := dd12_readLine
  refine Run_of_X (by decide) (Nat.le_of_ble_eq_true rfl) ?_
  show X Lv i12_readLine 0 [(0, vr a0)] [] M _
  unfold f12_readLine
  refine X_aloadn 0 d0 rfl ?_
  refine X_ldc kc_x12_188 d1 ?_
  refine X_cVi (as := [vi (20579973 : Int32)]) d3 cv_x12_189 ⟨by decide, by decide⟩ rfl (Nat.le_of_ble_eq_true rfl) (T12_isWord M a0 (20579973 : Int32)) (fun r3 M3 _ => ?_)
  refine X_if_eq (t := 26) d6 rfl (fun h6 => ?_) (fun h6 => ?_)
  · refine X_aloadn 0 d26 rfl ?_
    refine X_ldc kc_x12_192 d27 ?_
    refine X_cVi (as := [vi (632046 : Int32)]) d29 cv_x12_189 ⟨by decide, by decide⟩ rfl (Nat.le_of_ble_eq_true rfl) (T12_isWord M3 a0 (632046 : Int32)) (fun r29 M29 _ => ?_)
    refine X_if_eq (t := 53) d32 rfl (fun h32 => ?_) (fun h32 => ?_)
    · refine X_aloadn 0 d53 rfl ?_
      refine X_ldc kc_x12_193 d54 ?_
      refine X_cVi (as := [vi (611717 : Int32)]) d56 cv_x12_189 ⟨by decide, by decide⟩ rfl (Nat.le_of_ble_eq_true rfl) (T12_isWord M29 a0 (611717 : Int32)) (fun r56 M56 _ => ?_)
      refine X_if_eq (t := 79) d59 rfl (fun h59 => ?_) (fun h59 => ?_)
      · refine X_aloadn 0 d79 rfl ?_
        refine X_ldc kc_x12_194 d80 ?_
        refine X_cVi (as := [vi (244780 : Int32)]) d82 cv_x12_189 ⟨by decide, by decide⟩ rfl (Nat.le_of_ble_eq_true rfl) (T12_isWord M56 a0 (244780 : Int32)) (fun r82 M82 _ => ?_)
        refine X_if_eq (t := 104) d85 rfl (fun h85 => ?_) (fun h85 => ?_)
        · refine X_aloadn 0 d104 rfl ?_
          refine X_iconst k_i_2 d105 ?_
          refine X_cVv (as := [vi (2 : Int32)]) d106 cv_x12_206 ⟨by decide, by decide⟩ rfl (Nat.le_of_ble_eq_true rfl) (T12_fails M82 a0 (2 : Int32)) (fun M106 _ => ?_)
          exact T12_readLine_b109 M106 a0
        · refine X_aloadn 0 d88 rfl ?_
          refine X_iconst k_i_3 d89 ?_
          refine X_iconst k_i_4 d90 ?_
          refine X_cVi (as := [vi (3 : Int32), vi (4 : Int32)]) d91 cv_x12_215 ⟨by decide, by decide⟩ rfl (Nat.le_of_ble_eq_true rfl) (T12_isFull M82 a0 (3 : Int32) (4 : Int32)) (fun r91 M91 _ => ?_)
          refine X_if_ne (t := 109) d94 rfl (fun h94 => ?_) (fun h94 => ?_)
          · refine X_aloadn 0 d97 rfl ?_
            refine X_cVv (as := []) d98 cv_x12_224 ⟨by decide, by decide⟩ rfl (Nat.le_of_ble_eq_true rfl) (T12_newGoal M91 a0) (fun M98 _ => ?_)
            refine X_goto (t := 109) d101 rfl ?_
            exact T12_readLine_b109 M98 a0
          · exact T12_readLine_b109 M91 a0
      · refine X_aloadn 0 d62 rfl ?_
        refine X_iconst k_i_2 d63 ?_
        refine X_bipush k_b_14 d64 ?_
        refine X_cVi (as := [vi (2 : Int32), vi (14 : Int32)]) d66 cv_x12_215 ⟨by decide, by decide⟩ rfl (Nat.le_of_ble_eq_true rfl) (T12_isFull M56 a0 (2 : Int32) (14 : Int32)) (fun r66 M66 _ => ?_)
        refine X_if_ne (t := 109) d69 rfl (fun h69 => ?_) (fun h69 => ?_)
        · refine X_aloadn 0 d72 rfl ?_
          refine X_cVv (as := []) d73 cv_x12_221 ⟨by decide, by decide⟩ rfl (Nat.le_of_ble_eq_true rfl) (T12_newRule M66 a0) (fun M73 _ => ?_)
          refine X_goto (t := 109) d76 rfl ?_
          exact T12_readLine_b109 M73 a0
        · exact T12_readLine_b109 M66 a0
    · refine X_aloadn 0 d35 rfl ?_
      refine X_iconst k_i_1 d36 ?_
      refine X_bipush k_b_6 d37 ?_
      refine X_cVi (as := [vi (1 : Int32), vi (6 : Int32)]) d39 cv_x12_215 ⟨by decide, by decide⟩ rfl (Nat.le_of_ble_eq_true rfl) (T12_isFull M29 a0 (1 : Int32) (6 : Int32)) (fun r39 M39 _ => ?_)
      refine X_if_ne (t := 109) d42 rfl (fun h42 => ?_) (fun h42 => ?_)
      · refine X_aloadn 0 d45 rfl ?_
        refine X_iconst k_i_1 d46 ?_
        refine X_cVv (as := [vi (1 : Int32)]) d47 cv_x12_218 ⟨by decide, by decide⟩ rfl (Nat.le_of_ble_eq_true rfl) (T12_newName M39 a0 (1 : Int32)) (fun M47 _ => ?_)
        refine X_goto (t := 109) d50 rfl ?_
        exact T12_readLine_b109 M47 a0
      · exact T12_readLine_b109 M39 a0
  · refine X_aloadn 0 d9 rfl ?_
    refine X_iconst k_i_0 d10 ?_
    refine X_iconst k_i_5 d11 ?_
    refine X_cVi (as := [vi (0 : Int32), vi (5 : Int32)]) d12 cv_x12_215 ⟨by decide, by decide⟩ rfl (Nat.le_of_ble_eq_true rfl) (T12_isFull M3 a0 (0 : Int32) (5 : Int32)) (fun r12 M12 _ => ?_)
    refine X_if_ne (t := 109) d15 rfl (fun h15 => ?_) (fun h15 => ?_)
    · refine X_aloadn 0 d18 rfl ?_
      refine X_iconst k_i_0 d19 ?_
      refine X_cVv (as := [vi (0 : Int32)]) d20 cv_x12_218 ⟨by decide, by decide⟩ rfl (Nat.le_of_ble_eq_true rfl) (T12_newName M12 a0 (0 : Int32)) (fun M20 _ => ?_)
      refine X_goto (t := 109) d23 rfl ?_
      exact T12_readLine_b109 M20 a0
    · exact T12_readLine_b109 M12 a0

theorem dd12_rises : AllD (ib i12_rises) [(0, .aload_n 0, 1), (1, .iload_n 1, 1), (2, .iload_n 2, 1), (3, .invokevirtual 356, 3), (6, .ifCond .ne 5, 3), (9, .iconst 0, 1), (10, .ireturn, 1), (11, .aload_n 0, 1), (12, .invokevirtual 380, 3), (15, .aload_n 0, 1), (16, .getfield 69, 3), (19, .aload_n 0, 1), (20, .iload_n 1, 1), (21, .iload_n 2, 1), (22, .invokevirtual 368, 3), (25, .iaload, 1), (26, .sipush 1000, 3), (29, .if_icmp .ne 7, 3), (32, .iconst (-1), 1), (33, .goto 14, 3), (36, .aload_n 0, 1), (37, .getfield 69, 3), (40, .aload_n 0, 1), (41, .iload_n 1, 1), (42, .iload_n 2, 1), (43, .invokevirtual 368, 3), (46, .iaload, 1), (47, .ireturn, 1)] := allD_of (by decide +kernel)
def f12_rises (M : MM) (a0 : Nat) (a1 : Int32) (a2 : Int32) : Option (Int32 × MM) :=
  aO M a0 12 <|
  cI (f12_isHead M a0 a1 a2) fun r3 M3 =>
  if r3 = 0 then
    some ((0 : Int32), M3)
  else
    aO M3 a0 12 <|
    cV (f12_layRise M3 a0) fun M12 =>
    aO M12 a0 12 <|
    aO M12 a0 12 <|
    cI (f12_head M12 a0 a1 a2) fun r22 M22 =>
    aA M22 (mR M12 a0 37) 0 r22 <|
    if (mI M22 (mR M12 a0 37) r22.toNatClampNeg) = (1000 : Int32) then
      some ((-1 : Int32), M22)
    else
      aO M22 a0 12 <|
      aO M22 a0 12 <|
      cI (f12_head M22 a0 a1 a2) fun r43 M43 =>
      aA M43 (mR M22 a0 37) 0 r43 <|
      some (mI M43 (mR M22 a0 37) r43.toNatClampNeg, M43)
set_option maxRecDepth 4000 in
theorem T12_rises (M : MM) (a0 : Nat) (a1 : Int32) (a2 : Int32) : ∀ q, f12_rises M a0 a1 a2 = some q → Run i12_rises [vr a0, vi a1, vi a2] M (Li q) := by
  obtain ⟨d0, d1, d2, d3, d6, d9, d10, d11, d12, d15, d16, d19, d20, d21, d22, d25, d26, d29, d32, d33, d36, d37, d40, d41, d42, d43, d46, d47, -⟩ := dd12_rises
  refine Run_of_X (by decide) (Nat.le_of_ble_eq_true rfl) ?_
  show X Li i12_rises 0 [(0, vr a0), (1, vi a1), (2, vi a2)] [] M _
  unfold f12_rises
  refine X_aloadn 0 d0 rfl ?_
  refine X_iloadn 1 d1 rfl ?_
  refine X_iloadn 2 d2 rfl ?_
  refine X_cVi (as := [vi a1, vi a2]) d3 cv_x12_356 ⟨by decide, by decide⟩ rfl (Nat.le_of_ble_eq_true rfl) (T12_isHead M a0 a1 a2) (fun r3 M3 _ => ?_)
  refine X_if_ne (t := 11) d6 rfl (fun h6 => ?_) (fun h6 => ?_)
  · refine X_iconst k_i_0 d9 ?_
    exact X_ireturn d10 rfl rfl
  · refine X_aloadn 0 d11 rfl ?_
    refine X_cVv (as := []) d12 cv_x12_380 ⟨by decide, by decide⟩ rfl (Nat.le_of_ble_eq_true rfl) (T12_layRise M3 a0) (fun M12 _ => ?_)
    refine X_aloadn 0 d15 rfl ?_
    refine X_getR d16 fg_x12_69 ?_
    refine X_aloadn 0 d19 rfl ?_
    refine X_iloadn 1 d20 rfl ?_
    refine X_iloadn 2 d21 rfl ?_
    refine X_cVi (as := [vi a1, vi a2]) d22 cv_x12_368 ⟨by decide, by decide⟩ rfl (Nat.le_of_ble_eq_true rfl) (T12_head M12 a0 a1 a2) (fun r22 M22 _ => ?_)
    refine X_iaload d25 ?_
    refine X_sipush k_s_1000 d26 ?_
    refine X_icmp_ne (t := 36) d29 rfl (fun h29 => ?_) (fun h29 => ?_)
    · refine X_iconst k_i_m1 d32 ?_
      refine X_goto (t := 47) d33 rfl ?_
      exact X_ireturn d47 rfl rfl
    · refine X_aloadn 0 d36 rfl ?_
      refine X_getR d37 fg_x12_69 ?_
      refine X_aloadn 0 d40 rfl ?_
      refine X_iloadn 1 d41 rfl ?_
      refine X_iloadn 2 d42 rfl ?_
      refine X_cVi (as := [vi a1, vi a2]) d43 cv_x12_368 ⟨by decide, by decide⟩ rfl (Nat.le_of_ble_eq_true rfl) (T12_head M22 a0 a1 a2) (fun r43 M43 _ => ?_)
      refine X_iaload d46 ?_
      exact X_ireturn d47 rfl rfl

theorem dd12_rule : AllD (ib i12_rule) [(0, .aload_n 0, 1), (1, .iconst 0, 1), (2, .putfield 113, 3), (5, .aload_n 0, 1), (6, .iload_n 1, 1), (7, .invokevirtual 249, 3), (10, .ifCond .eq 13, 3), (13, .iload_n 2, 1), (14, .iconst 0, 1), (15, .bipush 7, 2), (17, .invokestatic 124, 3), (20, .ifCond .ne 6, 3), (23, .bipush (-2), 2), (25, .ireturn, 1), (26, .iload_n 2, 1), (27, .bipush 7, 2), (29, .if_icmp .ne 14, 3), (32, .aload_n 0, 1), (33, .getfield 131, 3), (36, .iload_n 1, 1), (37, .ishr, 1), (38, .iconst 1, 1), (39, .iand, 1), (40, .goto 9, 3), (43, .aload_n 0, 1), (44, .iload_n 1, 1), (45, .iload_n 2, 1), (46, .invokevirtual 138, 3), (49, .ireturn, 1)] := allD_of (by decide +kernel)
def f12_rule (M : MM) (a0 : Nat) (a1 : Int32) (a2 : Int32) : Option (Int32 × MM) :=
  aO M a0 12 <|
  bM (sI M a0 0 (0 : Int32)) fun M2 =>
  aO M2 a0 12 <|
  cI (f12_isRule M2 a0 a1) fun r7 M7 =>
  if r7 = 0 then
    some ((-2 : Int32), M7)
  else
    cI (f12_in M7 a2 (0 : Int32) (7 : Int32)) fun r17 M17 =>
    if r17 = 0 then
      some ((-2 : Int32), M17)
    else
      if a2 = (7 : Int32) then
        aO M17 a0 12 <|
        some (((mI M17 a0 5) >>> (a1 &&& 31)) &&& (1 : Int32), M17)
      else
        aO M17 a0 12 <|
        cI (f12_ruleOf M17 a0 a1 a2) fun r46 M46 =>
        some (r46, M46)
set_option maxRecDepth 4000 in
theorem T12_rule (M : MM) (a0 : Nat) (a1 : Int32) (a2 : Int32) : ∀ q, f12_rule M a0 a1 a2 = some q → Run i12_rule [vr a0, vi a1, vi a2] M (Li q) := by
  obtain ⟨d0, d1, d2, d5, d6, d7, d10, d13, d14, d15, d17, d20, d23, d25, d26, d27, d29, d32, d33, d36, d37, d38, d39, d40, d43, d44, d45, d46, d49, -⟩ := dd12_rule
  refine Run_of_X (by decide) (Nat.le_of_ble_eq_true rfl) ?_
  show X Li i12_rule 0 [(0, vr a0), (1, vi a1), (2, vi a2)] [] M _
  unfold f12_rule
  refine X_aloadn 0 d0 rfl ?_
  refine X_iconst k_i_0 d1 ?_
  refine X_putI d2 fp_x12_113 ?_
  refine X_bM fun M2 _ => ?_
  refine X_aloadn 0 d5 rfl ?_
  refine X_iloadn 1 d6 rfl ?_
  refine X_cVi (as := [vi a1]) d7 cv_x12_249 ⟨by decide, by decide⟩ rfl (Nat.le_of_ble_eq_true rfl) (T12_isRule M2 a0 a1) (fun r7 M7 _ => ?_)
  refine X_if_eq (t := 23) d10 rfl (fun h10 => ?_) (fun h10 => ?_)
  · refine X_bipush k_b_m2 d23 ?_
    exact X_ireturn d25 rfl rfl
  · refine X_iloadn 2 d13 rfl ?_
    refine X_iconst k_i_0 d14 ?_
    refine X_bipush k_b_7 d15 ?_
    refine X_cSi (as := [vi a2, vi (0 : Int32), vi (7 : Int32)]) d17 cs_x12_124 ⟨by decide, by decide⟩ rfl (Nat.le_of_ble_eq_true rfl) (T12_in M7 a2 (0 : Int32) (7 : Int32)) (fun r17 M17 _ => ?_)
    refine X_if_ne (t := 26) d20 rfl (fun h20 => ?_) (fun h20 => ?_)
    · refine X_bipush k_b_m2 d23 ?_
      exact X_ireturn d25 rfl rfl
    · refine X_iloadn 2 d26 rfl ?_
      refine X_bipush k_b_7 d27 ?_
      refine X_icmp_ne (t := 43) d29 rfl (fun h29 => ?_) (fun h29 => ?_)
      · refine X_aloadn 0 d32 rfl ?_
        refine X_getI d33 fg_x12_131 ?_
        refine X_iloadn 1 d36 rfl ?_
        refine X_ishr d37 ?_
        refine X_iconst k_i_1 d38 ?_
        refine X_iand d39 ?_
        refine X_goto (t := 49) d40 rfl ?_
        exact X_ireturn d49 rfl rfl
      · refine X_aloadn 0 d43 rfl ?_
        refine X_iloadn 1 d44 rfl ?_
        refine X_iloadn 2 d45 rfl ?_
        refine X_cVi (as := [vi a1, vi a2]) d46 cv_x12_138 ⟨by decide, by decide⟩ rfl (Nat.le_of_ble_eq_true rfl) (T12_ruleOf M17 a0 a1 a2) (fun r46 M46 _ => ?_)
        exact X_ireturn d49 rfl rfl

theorem dd12_run_b135 : AllD (ib i12_run) [(135, .isub, 1), (136, .istore 7, 2), (138, .iinc 8 1, 3), (141, .goto (-38), 3)] := allD_of (by decide +kernel)
def f12_run_b135 (K103 : MM → Nat → Int32 → Int32 → Int32 → Int32 → Int32 → Int32 → Option (Int32 × MM)) (M : MM) (a0 : Nat) (a2 : Int32) (a3 : Int32) (a4 : Int32) (a5 : Int32) (a8 : Int32) (s0 : Int32) (s1 : Int32) : Option (Int32 × MM) :=
  bW (s1 - s0) fun v136 =>
  K103 M a0 a2 a3 a4 a5 v136 (a8 + (1 : Int32))
set_option maxRecDepth 4000 in
theorem T12_run_b135 {K103 : MM → Nat → Int32 → Int32 → Int32 → Int32 → Int32 → Int32 → Option (Int32 × MM)} (hK103 : ∀ (M : MM) (a0 : Nat) (a2 : Int32) (a3 : Int32) (a4 : Int32) (a5 : Int32) (a7 : Int32) (a8 : Int32), X Li i12_run 103 [(0, vr a0), (2, vi a2), (3, vi a3), (4, vi a4), (5, vi a5), (7, vi a7), (8, vi a8)] [] M (K103 M a0 a2 a3 a4 a5 a7 a8)) : ∀ (M : MM) (a0 : Nat) (a2 : Int32) (a3 : Int32) (a4 : Int32) (a5 : Int32) (a8 : Int32) (s0 : Int32) (s1 : Int32), X Li i12_run 135 [(0, vr a0), (2, vi a2), (3, vi a3), (4, vi a4), (5, vi a5), (8, vi a8)] [vi s0, vi s1] M (f12_run_b135 K103 M a0 a2 a3 a4 a5 a8 s0 s1) := by
  obtain ⟨d135, d136, d138, d141, -⟩ := dd12_run_b135
  intro M a0 a2 a3 a4 a5 a8 s0 s1
  unfold f12_run_b135
  refine X_isub d135 ?_
  refine X_bWi fun v136 _ => ?_
  refine X_istore (lv' := [(7, vi v136), (0, vr a0), (2, vi a2), (3, vi a3), (4, vi a4), (5, vi a5), (8, vi a8)]) d136 (by decide) rfl ?_
  refine X_inc (lv' := [(8, vi (a8 + (1 : Int32))), (7, vi v136), (0, vr a0), (2, vi a2), (3, vi a3), (4, vi a4), (5, vi a5)]) 6 d138 k_i_1 rfl (by decide) rfl ?_
  refine X_goto (t := 103) d141 rfl ?_
  refine X_sub [2, 3, 4, 5, 6, 1, 0] rfl ?_
  exact hK103 M a0 a2 a3 a4 a5 v136 (a8 + (1 : Int32))

theorem dd12_run_b118 : AllD (ib i12_run) [(118, .iload 7, 2), (120, .iload 5, 2), (122, .iload 8, 2), (124, .invokestatic 134, 3), (127, .ifCond .eq 7, 3), (130, .iconst 1, 1), (131, .goto 4, 3), (134, .iconst 0, 1)] := allD_of (by decide +kernel)
def f12_run_b118 (K103 : MM → Nat → Int32 → Int32 → Int32 → Int32 → Int32 → Int32 → Option (Int32 × MM)) (M : MM) (a0 : Nat) (a2 : Int32) (a3 : Int32) (a4 : Int32) (a5 : Int32) (a7 : Int32) (a8 : Int32) : Option (Int32 × MM) :=
  cI (f12_isOf M a5 a8) fun r124 M124 =>
  if r124 = 0 then
    (f12_run_b135 K103) M124 a0 a2 a3 a4 a5 a8 (0 : Int32) a7
  else
    (f12_run_b135 K103) M124 a0 a2 a3 a4 a5 a8 (1 : Int32) a7
set_option maxRecDepth 4000 in
theorem T12_run_b118 {K103 : MM → Nat → Int32 → Int32 → Int32 → Int32 → Int32 → Int32 → Option (Int32 × MM)} (hK103 : ∀ (M : MM) (a0 : Nat) (a2 : Int32) (a3 : Int32) (a4 : Int32) (a5 : Int32) (a7 : Int32) (a8 : Int32), X Li i12_run 103 [(0, vr a0), (2, vi a2), (3, vi a3), (4, vi a4), (5, vi a5), (7, vi a7), (8, vi a8)] [] M (K103 M a0 a2 a3 a4 a5 a7 a8)) : ∀ (M : MM) (a0 : Nat) (a2 : Int32) (a3 : Int32) (a4 : Int32) (a5 : Int32) (a7 : Int32) (a8 : Int32), X Li i12_run 118 [(0, vr a0), (2, vi a2), (3, vi a3), (4, vi a4), (5, vi a5), (7, vi a7), (8, vi a8)] [] M (f12_run_b118 K103 M a0 a2 a3 a4 a5 a7 a8) := by
  obtain ⟨d118, d120, d122, d124, d127, d130, d131, d134, -⟩ := dd12_run_b118
  intro M a0 a2 a3 a4 a5 a7 a8
  unfold f12_run_b118
  refine X_iload 5 d118 rfl ?_
  refine X_iload 4 d120 rfl ?_
  refine X_iload 6 d122 rfl ?_
  refine X_cSi (as := [vi a5, vi a8]) d124 cs_x12_134 ⟨by decide, by decide⟩ rfl (Nat.le_of_ble_eq_true rfl) (T12_isOf M a5 a8) (fun r124 M124 _ => ?_)
  refine X_if_eq (t := 134) d127 rfl (fun h127 => ?_) (fun h127 => ?_)
  · refine X_iconst k_i_0 d134 ?_
    refine X_sub [0, 1, 2, 3, 4, 6] rfl ?_
    exact (T12_run_b135 hK103) M124 a0 a2 a3 a4 a5 a8 (0 : Int32) a7
  · refine X_iconst k_i_1 d130 ?_
    refine X_goto (t := 135) d131 rfl ?_
    refine X_sub [0, 1, 2, 3, 4, 6] rfl ?_
    exact (T12_run_b135 hK103) M124 a0 a2 a3 a4 a5 a8 (1 : Int32) a7

theorem dd12_run_b103 : AllD (ib i12_run) [(103, .iload 5, 2), (105, .iload 8, 2), (107, .invokestatic 134, 3), (110, .ifCond .eq 8, 3), (113, .iload 7, 2), (115, .ifCond .le 29, 3), (144, .aload_n 0, 1), (145, .iload 8, 2), (147, .invokevirtual 274, 3), (150, .iinc 4 1, 3), (153, .aload_n 0, 1), (154, .invokevirtual 271, 3), (157, .istore 5, 2), (159, .goto (-120), 3)] := allD_of (by decide +kernel)
def f12_run_b103_body (K39 : MM → Nat → Int32 → Int32 → Int32 → Int32 → Option (Int32 × MM)) (rc : MM → Nat → Int32 → Int32 → Int32 → Int32 → Int32 → Int32 → Option (Int32 × MM)) (M : MM) (a0 : Nat) (a2 : Int32) (a3 : Int32) (a4 : Int32) (a5 : Int32) (a7 : Int32) (a8 : Int32) : Option (Int32 × MM) :=
  cI (f12_isOf M a5 a8) fun r107 M107 =>
  if r107 = 0 then
    (f12_run_b118 rc) M107 a0 a2 a3 a4 a5 a7 a8
  else
    if a7 ≤ 0 then
      aO M107 a0 12 <|
      cV (f12_does M107 a0 a8) fun M147 =>
      aO M147 a0 12 <|
      cI (f12_allThatCan M147 a0) fun r154 M154 =>
      K39 M154 a0 a2 a3 (a4 + (1 : Int32)) r154
    else
      (f12_run_b118 rc) M107 a0 a2 a3 a4 a5 a7 a8
def f12_run_b103 (K39 : MM → Nat → Int32 → Int32 → Int32 → Int32 → Option (Int32 × MM)) : MM → Nat → Int32 → Int32 → Int32 → Int32 → Int32 → Int32 → Option (Int32 × MM) := LP8 (f12_run_b103_body K39) FU
set_option maxRecDepth 4000 in
theorem T12_run_b103 {K39 : MM → Nat → Int32 → Int32 → Int32 → Int32 → Option (Int32 × MM)} (hK39 : ∀ (M : MM) (a0 : Nat) (a2 : Int32) (a3 : Int32) (a4 : Int32) (a5 : Int32), X Li i12_run 39 [(0, vr a0), (2, vi a2), (3, vi a3), (4, vi a4), (5, vi a5)] [] M (K39 M a0 a2 a3 a4 a5)) : ∀ (M : MM) (a0 : Nat) (a2 : Int32) (a3 : Int32) (a4 : Int32) (a5 : Int32) (a7 : Int32) (a8 : Int32), X Li i12_run 103 [(0, vr a0), (2, vi a2), (3, vi a3), (4, vi a4), (5, vi a5), (7, vi a7), (8, vi a8)] [] M (f12_run_b103 K39 M a0 a2 a3 a4 a5 a7 a8) := by
  obtain ⟨d103, d105, d107, d110, d113, d115, d144, d145, d147, d150, d153, d154, d157, d159, -⟩ := dd12_run_b103
  refine LP8_i (P := fun M a0 a2 a3 a4 a5 a7 a8 o => X Li i12_run 103 [(0, vr a0), (2, vi a2), (3, vi a3), (4, vi a4), (5, vi a5), (7, vi a7), (8, vi a8)] [] M o) (fun _ _ _ _ _ _ _ _ => X_none) (fun rc ih M a0 a2 a3 a4 a5 a7 a8 => ?_) FU
  unfold f12_run_b103_body
  refine X_iload 4 d103 rfl ?_
  refine X_iload 6 d105 rfl ?_
  refine X_cSi (as := [vi a5, vi a8]) d107 cs_x12_134 ⟨by decide, by decide⟩ rfl (Nat.le_of_ble_eq_true rfl) (T12_isOf M a5 a8) (fun r107 M107 _ => ?_)
  refine X_if_eq (t := 118) d110 rfl (fun h110 => ?_) (fun h110 => ?_)
  · exact (T12_run_b118 ih) M107 a0 a2 a3 a4 a5 a7 a8
  · refine X_iload 5 d113 rfl ?_
    refine X_if_le (t := 144) d115 rfl (fun h115 => ?_) (fun h115 => ?_)
    · refine X_aloadn 0 d144 rfl ?_
      refine X_iload 6 d145 rfl ?_
      refine X_cVv (as := [vi a8]) d147 cv_x12_274 ⟨by decide, by decide⟩ rfl (Nat.le_of_ble_eq_true rfl) (T12_does M107 a0 a8) (fun M147 _ => ?_)
      refine X_inc (lv' := [(4, vi (a4 + (1 : Int32))), (0, vr a0), (2, vi a2), (3, vi a3), (5, vi a5), (7, vi a7), (8, vi a8)]) 3 d150 k_i_1 rfl (by decide) rfl ?_
      refine X_aloadn 1 d153 rfl ?_
      refine X_cVi (as := []) d154 cv_x12_271 ⟨by decide, by decide⟩ rfl (Nat.le_of_ble_eq_true rfl) (T12_allThatCan M147 a0) (fun r154 M154 _ => ?_)
      refine X_istore (lv' := [(5, vi r154), (4, vi (a4 + (1 : Int32))), (0, vr a0), (2, vi a2), (3, vi a3), (7, vi a7), (8, vi a8)]) d157 (by decide) rfl ?_
      refine X_goto (t := 39) d159 rfl ?_
      refine X_sub [2, 3, 4, 1, 0] rfl ?_
      exact hK39 M154 a0 a2 a3 (a4 + (1 : Int32)) r154
    · exact (T12_run_b118 ih) M107 a0 a2 a3 a4 a5 a7 a8

theorem dd12_run_b56 : AllD (ib i12_run) [(56, .iload 7, 2), (58, .bipush 14, 2), (60, .if_icmp .ge 21, 3), (63, .iload 6, 2), (65, .iload 5, 2), (67, .iload 7, 2), (69, .ishr, 1), (70, .iconst 1, 1), (71, .iand, 1), (72, .iadd, 1), (73, .istore 6, 2), (75, .iinc 7 1, 3), (78, .goto (-22), 3), (81, .iload_n 3, 1), (82, .ldc_w 277, 3), (85, .imul, 1), (86, .sipush 12345, 3), (89, .iadd, 1), (90, .istore_n 3, 1), (91, .iload_n 3, 1), (92, .bipush 16, 2), (94, .iushr, 1), (95, .iload 6, 2), (97, .irem, 1), (98, .istore 7, 2), (100, .iconst 0, 1), (101, .istore 8, 2)] := allD_of (by decide +kernel)
def f12_run_b56_body (K39 : MM → Nat → Int32 → Int32 → Int32 → Int32 → Option (Int32 × MM)) (rc : MM → Nat → Int32 → Int32 → Int32 → Int32 → Int32 → Int32 → Option (Int32 × MM)) (M : MM) (a0 : Nat) (a2 : Int32) (a3 : Int32) (a4 : Int32) (a5 : Int32) (a6 : Int32) (a7 : Int32) : Option (Int32 × MM) :=
  if (14 : Int32) ≤ a7 then
    bW ((a3 * (1103515245 : Int32)) + (12345 : Int32)) fun v90 =>
    gd (¬ a6 = 0) <|
    bW ((ushr v90 (16 : Int32)) - (ushr v90 (16 : Int32)) / a6 * a6) fun v98 =>
    (f12_run_b103 K39) M a0 a2 v90 a4 a5 v98 (0 : Int32)
  else
    bW (a6 + ((a5 >>> (a7 &&& 31)) &&& (1 : Int32))) fun v73 =>
    rc M a0 a2 a3 a4 a5 v73 (a7 + (1 : Int32))
def f12_run_b56 (K39 : MM → Nat → Int32 → Int32 → Int32 → Int32 → Option (Int32 × MM)) : MM → Nat → Int32 → Int32 → Int32 → Int32 → Int32 → Int32 → Option (Int32 × MM) := LP8 (f12_run_b56_body K39) FU
set_option maxRecDepth 4000 in
theorem T12_run_b56 {K39 : MM → Nat → Int32 → Int32 → Int32 → Int32 → Option (Int32 × MM)} (hK39 : ∀ (M : MM) (a0 : Nat) (a2 : Int32) (a3 : Int32) (a4 : Int32) (a5 : Int32), X Li i12_run 39 [(0, vr a0), (2, vi a2), (3, vi a3), (4, vi a4), (5, vi a5)] [] M (K39 M a0 a2 a3 a4 a5)) : ∀ (M : MM) (a0 : Nat) (a2 : Int32) (a3 : Int32) (a4 : Int32) (a5 : Int32) (a6 : Int32) (a7 : Int32), X Li i12_run 56 [(0, vr a0), (2, vi a2), (3, vi a3), (4, vi a4), (5, vi a5), (6, vi a6), (7, vi a7)] [] M (f12_run_b56 K39 M a0 a2 a3 a4 a5 a6 a7) := by
  obtain ⟨d56, d58, d60, d63, d65, d67, d69, d70, d71, d72, d73, d75, d78, d81, d82, d85, d86, d89, d90, d91, d92, d94, d95, d97, d98, d100, d101, -⟩ := dd12_run_b56
  refine LP8_i (P := fun M a0 a2 a3 a4 a5 a6 a7 o => X Li i12_run 56 [(0, vr a0), (2, vi a2), (3, vi a3), (4, vi a4), (5, vi a5), (6, vi a6), (7, vi a7)] [] M o) (fun _ _ _ _ _ _ _ _ => X_none) (fun rc ih M a0 a2 a3 a4 a5 a6 a7 => ?_) FU
  unfold f12_run_b56_body
  refine X_iload 6 d56 rfl ?_
  refine X_bipush k_b_14 d58 ?_
  refine X_icmp_ge (t := 81) d60 rfl (fun h60 => ?_) (fun h60 => ?_)
  · refine X_iloadn 2 d81 rfl ?_
    refine X_ldcw kc_x12_277 d82 ?_
    refine X_imul d85 ?_
    refine X_sipush k_s_12345 d86 ?_
    refine X_iadd d89 ?_
    refine X_bWi fun v90 _ => ?_
    refine X_istoren (lv' := [(3, vi v90), (0, vr a0), (2, vi a2), (4, vi a4), (5, vi a5), (6, vi a6), (7, vi a7)]) d90 (by decide) rfl ?_
    refine X_iloadn 0 d91 rfl ?_
    refine X_bipush k_b_16 d92 ?_
    refine X_iushr d94 ?_
    refine X_iload 5 d95 rfl ?_
    refine X_irem d97 ?_
    refine X_bWi fun v98 _ => ?_
    refine X_istore (lv' := [(7, vi v98), (3, vi v90), (0, vr a0), (2, vi a2), (4, vi a4), (5, vi a5), (6, vi a6)]) d98 (by decide) rfl ?_
    refine X_iconst k_i_0 d100 ?_
    refine X_istore (lv' := [(8, vi (0 : Int32)), (7, vi v98), (3, vi v90), (0, vr a0), (2, vi a2), (4, vi a4), (5, vi a5), (6, vi a6)]) d101 (by decide) rfl ?_
    refine X_sub [3, 4, 2, 5, 6, 1, 0] rfl ?_
    exact (T12_run_b103 hK39) M a0 a2 v90 a4 a5 v98 (0 : Int32)
  · refine X_iload 5 d63 rfl ?_
    refine X_iload 4 d65 rfl ?_
    refine X_iload 6 d67 rfl ?_
    refine X_ishr d69 ?_
    refine X_iconst k_i_1 d70 ?_
    refine X_iand d71 ?_
    refine X_iadd d72 ?_
    refine X_bWi fun v73 _ => ?_
    refine X_istore (lv' := [(6, vi v73), (0, vr a0), (2, vi a2), (3, vi a3), (4, vi a4), (5, vi a5), (7, vi a7)]) d73 (by decide) rfl ?_
    refine X_inc (lv' := [(7, vi (a7 + (1 : Int32))), (6, vi v73), (0, vr a0), (2, vi a2), (3, vi a3), (4, vi a4), (5, vi a5)]) 6 d75 k_i_1 rfl (by decide) rfl ?_
    refine X_goto (t := 56) d78 rfl ?_
    refine X_sub [2, 3, 4, 5, 6, 1, 0] rfl ?_
    exact ih M a0 a2 a3 a4 a5 v73 (a7 + (1 : Int32))

theorem dd12_run_b39 : AllD (ib i12_run) [(39, .iload 4, 2), (41, .iload_n 2, 1), (42, .if_icmp .ge 120, 3), (45, .iload 5, 2), (47, .ifCond .eq 115, 3), (50, .iconst 0, 1), (51, .istore 6, 2), (53, .iconst 0, 1), (54, .istore 7, 2), (162, .iload 4, 2), (164, .ireturn, 1)] := allD_of (by decide +kernel)
def f12_run_b39_body (rc : MM → Nat → Int32 → Int32 → Int32 → Int32 → Option (Int32 × MM)) (M : MM) (a0 : Nat) (a2 : Int32) (a3 : Int32) (a4 : Int32) (a5 : Int32) : Option (Int32 × MM) :=
  if a2 ≤ a4 then
    some (a4, M)
  else
    if a5 = 0 then
      some (a4, M)
    else
      (f12_run_b56 rc) M a0 a2 a3 a4 a5 (0 : Int32) (0 : Int32)
def f12_run_b39 : MM → Nat → Int32 → Int32 → Int32 → Int32 → Option (Int32 × MM) := LP6 (f12_run_b39_body) FU
set_option maxRecDepth 4000 in
theorem T12_run_b39 : ∀ (M : MM) (a0 : Nat) (a2 : Int32) (a3 : Int32) (a4 : Int32) (a5 : Int32), X Li i12_run 39 [(0, vr a0), (2, vi a2), (3, vi a3), (4, vi a4), (5, vi a5)] [] M (f12_run_b39 M a0 a2 a3 a4 a5) := by
  obtain ⟨d39, d41, d42, d45, d47, d50, d51, d53, d54, d162, d164, -⟩ := dd12_run_b39
  refine LP6_i (P := fun M a0 a2 a3 a4 a5 o => X Li i12_run 39 [(0, vr a0), (2, vi a2), (3, vi a3), (4, vi a4), (5, vi a5)] [] M o) (fun _ _ _ _ _ _ => X_none) (fun rc ih M a0 a2 a3 a4 a5 => ?_) FU
  unfold f12_run_b39_body
  refine X_iload 3 d39 rfl ?_
  refine X_iloadn 1 d41 rfl ?_
  refine X_icmp_ge (t := 162) d42 rfl (fun h42 => ?_) (fun h42 => ?_)
  · refine X_iload 3 d162 rfl ?_
    exact X_ireturn d164 rfl rfl
  · refine X_iload 4 d45 rfl ?_
    refine X_if_eq (t := 162) d47 rfl (fun h47 => ?_) (fun h47 => ?_)
    · refine X_iload 3 d162 rfl ?_
      exact X_ireturn d164 rfl rfl
    · refine X_iconst k_i_0 d50 ?_
      refine X_istore (lv' := [(6, vi (0 : Int32)), (0, vr a0), (2, vi a2), (3, vi a3), (4, vi a4), (5, vi a5)]) d51 (by decide) rfl ?_
      refine X_iconst k_i_0 d53 ?_
      refine X_istore (lv' := [(7, vi (0 : Int32)), (6, vi (0 : Int32)), (0, vr a0), (2, vi a2), (3, vi a3), (4, vi a4), (5, vi a5)]) d54 (by decide) rfl ?_
      refine X_sub [2, 3, 4, 5, 6, 1, 0] rfl ?_
      exact (T12_run_b56 ih) M a0 a2 a3 a4 a5 (0 : Int32) (0 : Int32)

theorem dd12_run : AllD (ib i12_run) [(0, .aload_n 0, 1), (1, .iconst 0, 1), (2, .putfield 113, 3), (5, .aload_n 0, 1), (6, .getfield 236, 3), (9, .ifCond .eq 13, 3), (12, .iload_n 2, 1), (13, .iconst 1, 1), (14, .bipush 100, 2), (16, .invokestatic 124, 3), (19, .ifCond .ne 5, 3), (22, .iconst (-1), 1), (23, .ireturn, 1), (24, .aload_n 0, 1), (25, .invokevirtual 261, 3), (28, .iload_n 1, 1), (29, .istore_n 3, 1), (30, .iconst 0, 1), (31, .istore 4, 2), (33, .aload_n 0, 1), (34, .invokevirtual 271, 3), (37, .istore 5, 2)] := allD_of (by decide +kernel)
def f12_run (M : MM) (a0 : Nat) (a1 : Int32) (a2 : Int32) : Option (Int32 × MM) :=
  aO M a0 12 <|
  bM (sI M a0 0 (0 : Int32)) fun M2 =>
  aO M2 a0 12 <|
  if (mI M2 a0 19) = 0 then
    some ((-1 : Int32), M2)
  else
    cI (f12_in M2 a2 (1 : Int32) (100 : Int32)) fun r16 M16 =>
    if r16 = 0 then
      some ((-1 : Int32), M16)
    else
      aO M16 a0 12 <|
      cV (f12_keep M16 a0) fun M25 =>
      aO M25 a0 12 <|
      cI (f12_allThatCan M25 a0) fun r34 M34 =>
      f12_run_b39 M34 a0 a2 a1 (0 : Int32) r34
set_option maxRecDepth 4000 in
theorem T12_run (M : MM) (a0 : Nat) (a1 : Int32) (a2 : Int32) : ∀ q, f12_run M a0 a1 a2 = some q → Run i12_run [vr a0, vi a1, vi a2] M (Li q) := by
  obtain ⟨d0, d1, d2, d5, d6, d9, d12, d13, d14, d16, d19, d22, d23, d24, d25, d28, d29, d30, d31, d33, d34, d37, -⟩ := dd12_run
  refine Run_of_X (by decide) (Nat.le_of_ble_eq_true rfl) ?_
  show X Li i12_run 0 [(0, vr a0), (1, vi a1), (2, vi a2)] [] M _
  unfold f12_run
  refine X_aloadn 0 d0 rfl ?_
  refine X_iconst k_i_0 d1 ?_
  refine X_putI d2 fp_x12_113 ?_
  refine X_bM fun M2 _ => ?_
  refine X_aloadn 0 d5 rfl ?_
  refine X_getI d6 fg_x12_236 ?_
  refine X_if_eq (t := 22) d9 rfl (fun h9 => ?_) (fun h9 => ?_)
  · refine X_iconst k_i_m1 d22 ?_
    exact X_ireturn d23 rfl rfl
  · refine X_iloadn 2 d12 rfl ?_
    refine X_iconst k_i_1 d13 ?_
    refine X_bipush k_b_100 d14 ?_
    refine X_cSi (as := [vi a2, vi (1 : Int32), vi (100 : Int32)]) d16 cs_x12_124 ⟨by decide, by decide⟩ rfl (Nat.le_of_ble_eq_true rfl) (T12_in M2 a2 (1 : Int32) (100 : Int32)) (fun r16 M16 _ => ?_)
    refine X_if_ne (t := 24) d19 rfl (fun h19 => ?_) (fun h19 => ?_)
    · refine X_iconst k_i_m1 d22 ?_
      exact X_ireturn d23 rfl rfl
    · refine X_aloadn 0 d24 rfl ?_
      refine X_cVv (as := []) d25 cv_x12_261 ⟨by decide, by decide⟩ rfl (Nat.le_of_ble_eq_true rfl) (T12_keep M16 a0) (fun M25 _ => ?_)
      refine X_iloadn 1 d28 rfl ?_
      refine X_istoren (lv' := [(3, vi a1), (0, vr a0), (1, vi a1), (2, vi a2)]) d29 (by decide) rfl ?_
      refine X_iconst k_i_0 d30 ?_
      refine X_istore (lv' := [(4, vi (0 : Int32)), (3, vi a1), (0, vr a0), (1, vi a1), (2, vi a2)]) d31 (by decide) rfl ?_
      refine X_aloadn 2 d33 rfl ?_
      refine X_cVi (as := []) d34 cv_x12_271 ⟨by decide, by decide⟩ rfl (Nat.le_of_ble_eq_true rfl) (T12_allThatCan M25 a0) (fun r34 M34 _ => ?_)
      refine X_istore (lv' := [(5, vi r34), (4, vi (0 : Int32)), (3, vi a1), (0, vr a0), (1, vi a1), (2, vi a2)]) d37 (by decide) rfl ?_
      refine X_sub [3, 5, 2, 1, 0] rfl ?_
      exact T12_run_b39 M34 a0 a2 a1 (0 : Int32) r34

theorem dd12_same : AllD (ib i12_same) [(0, .aload_n 0, 1), (1, .iconst 0, 1), (2, .putfield 113, 3), (5, .aload_n 0, 1), (6, .iload_n 1, 1), (7, .invokevirtual 350, 3), (10, .ifCond .eq 11, 3), (13, .aload_n 0, 1), (14, .iload_n 2, 1), (15, .invokevirtual 350, 3), (18, .ifCond .ne 5, 3), (21, .iconst (-1), 1), (22, .ireturn, 1), (23, .aload_n 0, 1), (24, .invokevirtual 431, 3), (27, .aload_n 0, 1), (28, .getfield 95, 3), (31, .iload_n 1, 1), (32, .iaload, 1), (33, .aload_n 0, 1), (34, .getfield 95, 3), (37, .iload_n 2, 1), (38, .iaload, 1), (39, .if_icmp .ne 7, 3), (42, .iconst 1, 1), (43, .goto 4, 3), (46, .iconst 0, 1), (47, .ireturn, 1)] := allD_of (by decide +kernel)
def f12_same (M : MM) (a0 : Nat) (a1 : Int32) (a2 : Int32) : Option (Int32 × MM) :=
  aO M a0 12 <|
  bM (sI M a0 0 (0 : Int32)) fun M2 =>
  aO M2 a0 12 <|
  cI (f12_isState M2 a0 a1) fun r7 M7 =>
  if r7 = 0 then
    some ((-1 : Int32), M7)
  else
    aO M7 a0 12 <|
    cI (f12_isState M7 a0 a2) fun r15 M15 =>
    if r15 = 0 then
      some ((-1 : Int32), M15)
    else
      aO M15 a0 12 <|
      cV (f12_layMachines M15 a0) fun M24 =>
      aO M24 a0 12 <|
      aA M24 (mR M24 a0 45) 0 a1 <|
      aO M24 a0 12 <|
      aA M24 (mR M24 a0 45) 0 a2 <|
      if (mI M24 (mR M24 a0 45) a1.toNatClampNeg) = (mI M24 (mR M24 a0 45) a2.toNatClampNeg) then
        some ((1 : Int32), M24)
      else
        some ((0 : Int32), M24)
set_option maxRecDepth 4000 in
theorem T12_same (M : MM) (a0 : Nat) (a1 : Int32) (a2 : Int32) : ∀ q, f12_same M a0 a1 a2 = some q → Run i12_same [vr a0, vi a1, vi a2] M (Li q) := by
  obtain ⟨d0, d1, d2, d5, d6, d7, d10, d13, d14, d15, d18, d21, d22, d23, d24, d27, d28, d31, d32, d33, d34, d37, d38, d39, d42, d43, d46, d47, -⟩ := dd12_same
  refine Run_of_X (by decide) (Nat.le_of_ble_eq_true rfl) ?_
  show X Li i12_same 0 [(0, vr a0), (1, vi a1), (2, vi a2)] [] M _
  unfold f12_same
  refine X_aloadn 0 d0 rfl ?_
  refine X_iconst k_i_0 d1 ?_
  refine X_putI d2 fp_x12_113 ?_
  refine X_bM fun M2 _ => ?_
  refine X_aloadn 0 d5 rfl ?_
  refine X_iloadn 1 d6 rfl ?_
  refine X_cVi (as := [vi a1]) d7 cv_x12_350 ⟨by decide, by decide⟩ rfl (Nat.le_of_ble_eq_true rfl) (T12_isState M2 a0 a1) (fun r7 M7 _ => ?_)
  refine X_if_eq (t := 21) d10 rfl (fun h10 => ?_) (fun h10 => ?_)
  · refine X_iconst k_i_m1 d21 ?_
    exact X_ireturn d22 rfl rfl
  · refine X_aloadn 0 d13 rfl ?_
    refine X_iloadn 2 d14 rfl ?_
    refine X_cVi (as := [vi a2]) d15 cv_x12_350 ⟨by decide, by decide⟩ rfl (Nat.le_of_ble_eq_true rfl) (T12_isState M7 a0 a2) (fun r15 M15 _ => ?_)
    refine X_if_ne (t := 23) d18 rfl (fun h18 => ?_) (fun h18 => ?_)
    · refine X_iconst k_i_m1 d21 ?_
      exact X_ireturn d22 rfl rfl
    · refine X_aloadn 0 d23 rfl ?_
      refine X_cVv (as := []) d24 cv_x12_431 ⟨by decide, by decide⟩ rfl (Nat.le_of_ble_eq_true rfl) (T12_layMachines M15 a0) (fun M24 _ => ?_)
      refine X_aloadn 0 d27 rfl ?_
      refine X_getR d28 fg_x12_95 ?_
      refine X_iloadn 1 d31 rfl ?_
      refine X_iaload d32 ?_
      refine X_aloadn 0 d33 rfl ?_
      refine X_getR d34 fg_x12_95 ?_
      refine X_iloadn 2 d37 rfl ?_
      refine X_iaload d38 ?_
      refine X_icmp_ne (t := 46) d39 rfl (fun h39 => ?_) (fun h39 => ?_)
      · refine X_iconst k_i_1 d42 ?_
        refine X_goto (t := 47) d43 rfl ?_
        exact X_ireturn d47 rfl rfl
      · refine X_iconst k_i_0 d46 ?_
        exact X_ireturn d47 rfl rfl

theorem dd12_shortest_b38 : AllD (ib i12_shortest) [(38, .iload_n 2, 1), (39, .iconst (-1), 1), (40, .if_icmp .ne 12, 3), (43, .aload_n 0, 1), (44, .getfield 110, 3), (47, .iconst 0, 1), (48, .iaload, 1), (49, .goto 4, 3), (52, .iconst (-1), 1), (53, .ireturn, 1)] := allD_of (by decide +kernel)
def f12_shortest_b38 (M : MM) (a0 : Nat) (a2 : Int32) : Option (Int32 × MM) :=
  if a2 = (-1 : Int32) then
    aO M a0 12 <|
    aA M (mR M a0 54) 0 (0 : Int32) <|
    some (mI M (mR M a0 54) (0 : Int32).toNatClampNeg, M)
  else
    some ((-1 : Int32), M)
set_option maxRecDepth 4000 in
theorem T12_shortest_b38 : ∀ (M : MM) (a0 : Nat) (a2 : Int32), X Li i12_shortest 38 [(0, vr a0), (2, vi a2)] [] M (f12_shortest_b38 M a0 a2) := by
  obtain ⟨d38, d39, d40, d43, d44, d47, d48, d49, d52, d53, -⟩ := dd12_shortest_b38
  intro M a0 a2
  unfold f12_shortest_b38
  refine X_iloadn 1 d38 rfl ?_
  refine X_iconst k_i_m1 d39 ?_
  refine X_icmp_ne (t := 52) d40 rfl (fun h40 => ?_) (fun h40 => ?_)
  · refine X_aloadn 0 d43 rfl ?_
    refine X_getR d44 fg_x12_110 ?_
    refine X_iconst k_i_0 d47 ?_
    refine X_iaload d48 ?_
    refine X_goto (t := 53) d49 rfl ?_
    exact X_ireturn d53 rfl rfl
  · refine X_iconst k_i_m1 d52 ?_
    exact X_ireturn d53 rfl rfl

theorem dd12_shortest_b89 : AllD (ib i12_shortest) [(89, .aload_n 0, 1), (90, .getfield 110, 3), (93, .aload_n 0, 1), (94, .aload_n 0, 1), (95, .getfield 92, 3), (98, .bipush 6, 2), (100, .aload_n 0, 1), (101, .getfield 101, 3), (104, .iload_n 3, 1), (105, .iaload, 1), (106, .imul, 1), (107, .iload 4, 2), (109, .iadd, 1), (110, .iaload, 1), (111, .invokevirtual 434, 3), (114, .iaload, 1), (115, .aload_n 0, 1), (116, .getfield 110, 3), (119, .iload_n 3, 1), (120, .iaload, 1), (121, .iconst 1, 1), (122, .isub, 1), (123, .if_icmp .eq 9, 3), (126, .iinc 4 1, 3), (129, .goto (-40), 3), (132, .aload_n 0, 1), (133, .aload_n 0, 1), (134, .getfield 92, 3), (137, .bipush 6, 2), (139, .aload_n 0, 1), (140, .getfield 101, 3), (143, .iload_n 3, 1), (144, .iaload, 1), (145, .imul, 1), (146, .iload 4, 2), (148, .iadd, 1), (149, .iaload, 1), (150, .invokevirtual 434, 3), (153, .istore_n 3, 1), (154, .iinc 5 1, 3), (157, .goto (-77), 3)] := allD_of (by decide +kernel)
def f12_shortest_b89_body (K80 : MM → Nat → Int32 → Int32 → Int32 → Int32 → Option (Int32 × MM)) (rc : MM → Nat → Int32 → Int32 → Int32 → Int32 → Option (Int32 × MM)) (M : MM) (a0 : Nat) (a2 : Int32) (a3 : Int32) (a4 : Int32) (a5 : Int32) : Option (Int32 × MM) :=
  aO M a0 12 <|
  aO M a0 12 <|
  aO M a0 12 <|
  aA M (mR M a0 50) 0 a3 <|
  aA M (mR M a0 44) 0 (((6 : Int32) * (mI M (mR M a0 50) a3.toNatClampNeg)) + a4) <|
  aO M a0 12 <|
  cI (f12_nodeFor M a0 (mI M (mR M a0 44) (((6 : Int32) * (mI M (mR M a0 50) a3.toNatClampNeg)) + a4).toNatClampNeg)) fun r111 M111 =>
  aA M111 (mR M a0 54) 0 r111 <|
  aO M111 a0 12 <|
  aA M111 (mR M111 a0 54) 0 a3 <|
  if (mI M111 (mR M a0 54) r111.toNatClampNeg) = ((mI M111 (mR M111 a0 54) a3.toNatClampNeg) - (1 : Int32)) then
    aO M111 a0 12 <|
    aO M111 a0 12 <|
    aA M111 (mR M111 a0 50) 0 a3 <|
    aA M111 (mR M111 a0 44) 0 (((6 : Int32) * (mI M111 (mR M111 a0 50) a3.toNatClampNeg)) + a4) <|
    aO M111 a0 12 <|
    cI (f12_nodeFor M111 a0 (mI M111 (mR M111 a0 44) (((6 : Int32) * (mI M111 (mR M111 a0 50) a3.toNatClampNeg)) + a4).toNatClampNeg)) fun r150 M150 =>
    K80 M150 a0 a2 r150 a4 (a5 + (1 : Int32))
  else
    rc M111 a0 a2 a3 (a4 + (1 : Int32)) a5
def f12_shortest_b89 (K80 : MM → Nat → Int32 → Int32 → Int32 → Int32 → Option (Int32 × MM)) : MM → Nat → Int32 → Int32 → Int32 → Int32 → Option (Int32 × MM) := LP6 (f12_shortest_b89_body K80) FU
set_option maxRecDepth 4000 in
theorem T12_shortest_b89 {K80 : MM → Nat → Int32 → Int32 → Int32 → Int32 → Option (Int32 × MM)} (hK80 : ∀ (M : MM) (a0 : Nat) (a2 : Int32) (a3 : Int32) (a4 : Int32) (a5 : Int32), X Li i12_shortest 80 [(0, vr a0), (2, vi a2), (3, vi a3), (4, vi a4), (5, vi a5)] [] M (K80 M a0 a2 a3 a4 a5)) : ∀ (M : MM) (a0 : Nat) (a2 : Int32) (a3 : Int32) (a4 : Int32) (a5 : Int32), X Li i12_shortest 89 [(0, vr a0), (2, vi a2), (3, vi a3), (4, vi a4), (5, vi a5)] [] M (f12_shortest_b89 K80 M a0 a2 a3 a4 a5) := by
  obtain ⟨d89, d90, d93, d94, d95, d98, d100, d101, d104, d105, d106, d107, d109, d110, d111, d114, d115, d116, d119, d120, d121, d122, d123, d126, d129, d132, d133, d134, d137, d139, d140, d143, d144, d145, d146, d148, d149, d150, d153, d154, d157, -⟩ := dd12_shortest_b89
  refine LP6_i (P := fun M a0 a2 a3 a4 a5 o => X Li i12_shortest 89 [(0, vr a0), (2, vi a2), (3, vi a3), (4, vi a4), (5, vi a5)] [] M o) (fun _ _ _ _ _ _ => X_none) (fun rc ih M a0 a2 a3 a4 a5 => ?_) FU
  unfold f12_shortest_b89_body
  refine X_aloadn 0 d89 rfl ?_
  refine X_getR d90 fg_x12_110 ?_
  refine X_aloadn 0 d93 rfl ?_
  refine X_aloadn 0 d94 rfl ?_
  refine X_getR d95 fg_x12_92 ?_
  refine X_bipush k_b_6 d98 ?_
  refine X_aloadn 0 d100 rfl ?_
  refine X_getR d101 fg_x12_101 ?_
  refine X_iloadn 2 d104 rfl ?_
  refine X_iaload d105 ?_
  refine X_imul d106 ?_
  refine X_iload 3 d107 rfl ?_
  refine X_iadd d109 ?_
  refine X_iaload d110 ?_
  refine X_cVi (as := [vi (mI M (mR M a0 44) (((6 : Int32) * (mI M (mR M a0 50) a3.toNatClampNeg)) + a4).toNatClampNeg)]) d111 cv_x12_434 ⟨by decide, by decide⟩ rfl (Nat.le_of_ble_eq_true rfl) (T12_nodeFor M a0 (mI M (mR M a0 44) (((6 : Int32) * (mI M (mR M a0 50) a3.toNatClampNeg)) + a4).toNatClampNeg)) (fun r111 M111 _ => ?_)
  refine X_iaload d114 ?_
  refine X_aloadn 0 d115 rfl ?_
  refine X_getR d116 fg_x12_110 ?_
  refine X_iloadn 2 d119 rfl ?_
  refine X_iaload d120 ?_
  refine X_iconst k_i_1 d121 ?_
  refine X_isub d122 ?_
  refine X_icmp_eq (t := 132) d123 rfl (fun h123 => ?_) (fun h123 => ?_)
  · refine X_aloadn 0 d132 rfl ?_
    refine X_aloadn 0 d133 rfl ?_
    refine X_getR d134 fg_x12_92 ?_
    refine X_bipush k_b_6 d137 ?_
    refine X_aloadn 0 d139 rfl ?_
    refine X_getR d140 fg_x12_101 ?_
    refine X_iloadn 2 d143 rfl ?_
    refine X_iaload d144 ?_
    refine X_imul d145 ?_
    refine X_iload 3 d146 rfl ?_
    refine X_iadd d148 ?_
    refine X_iaload d149 ?_
    refine X_cVi (as := [vi (mI M111 (mR M111 a0 44) (((6 : Int32) * (mI M111 (mR M111 a0 50) a3.toNatClampNeg)) + a4).toNatClampNeg)]) d150 cv_x12_434 ⟨by decide, by decide⟩ rfl (Nat.le_of_ble_eq_true rfl) (T12_nodeFor M111 a0 (mI M111 (mR M111 a0 44) (((6 : Int32) * (mI M111 (mR M111 a0 50) a3.toNatClampNeg)) + a4).toNatClampNeg)) (fun r150 M150 _ => ?_)
    refine X_istoren (lv' := [(3, vi r150), (0, vr a0), (2, vi a2), (4, vi a4), (5, vi a5)]) d153 (by decide) rfl ?_
    refine X_inc (lv' := [(5, vi (a5 + (1 : Int32))), (3, vi r150), (0, vr a0), (2, vi a2), (4, vi a4)]) 4 d154 k_i_1 rfl (by decide) rfl ?_
    refine X_goto (t := 80) d157 rfl ?_
    refine X_sub [2, 3, 1, 4, 0] rfl ?_
    exact hK80 M150 a0 a2 r150 a4 (a5 + (1 : Int32))
  · refine X_inc (lv' := [(4, vi (a4 + (1 : Int32))), (0, vr a0), (2, vi a2), (3, vi a3), (5, vi a5)]) 3 d126 k_i_1 rfl (by decide) rfl ?_
    refine X_goto (t := 89) d129 rfl ?_
    refine X_sub [1, 2, 3, 0, 4] rfl ?_
    exact ih M111 a0 a2 a3 (a4 + (1 : Int32)) a5

theorem dd12_shortest_b80 : AllD (ib i12_shortest) [(80, .iload 5, 2), (82, .iload_n 2, 1), (83, .if_icmp .gt 77, 3), (86, .iconst 0, 1), (87, .istore 4, 2), (160, .iload 4, 2), (162, .ireturn, 1)] := allD_of (by decide +kernel)
def f12_shortest_b80_body (rc : MM → Nat → Int32 → Int32 → Int32 → Int32 → Option (Int32 × MM)) (M : MM) (a0 : Nat) (a2 : Int32) (a3 : Int32) (a4 : Int32) (a5 : Int32) : Option (Int32 × MM) :=
  if a2 < a5 then
    some (a4, M)
  else
    (f12_shortest_b89 rc) M a0 a2 a3 (0 : Int32) a5
def f12_shortest_b80 : MM → Nat → Int32 → Int32 → Int32 → Int32 → Option (Int32 × MM) := LP6 (f12_shortest_b80_body) FU
set_option maxRecDepth 4000 in
theorem T12_shortest_b80 : ∀ (M : MM) (a0 : Nat) (a2 : Int32) (a3 : Int32) (a4 : Int32) (a5 : Int32), X Li i12_shortest 80 [(0, vr a0), (2, vi a2), (3, vi a3), (4, vi a4), (5, vi a5)] [] M (f12_shortest_b80 M a0 a2 a3 a4 a5) := by
  obtain ⟨d80, d82, d83, d86, d87, d160, d162, -⟩ := dd12_shortest_b80
  refine LP6_i (P := fun M a0 a2 a3 a4 a5 o => X Li i12_shortest 80 [(0, vr a0), (2, vi a2), (3, vi a3), (4, vi a4), (5, vi a5)] [] M o) (fun _ _ _ _ _ _ => X_none) (fun rc ih M a0 a2 a3 a4 a5 => ?_) FU
  unfold f12_shortest_b80_body
  refine X_iload 4 d80 rfl ?_
  refine X_iloadn 1 d82 rfl ?_
  refine X_icmp_gt (t := 160) d83 rfl (fun h83 => ?_) (fun h83 => ?_)
  · refine X_iload 3 d160 rfl ?_
    exact X_ireturn d162 rfl rfl
  · refine X_iconst k_i_0 d86 ?_
    refine X_istore (lv' := [(4, vi (0 : Int32)), (0, vr a0), (2, vi a2), (3, vi a3), (5, vi a5)]) d87 (by decide) rfl ?_
    refine X_sub [1, 2, 3, 0, 4] rfl ?_
    exact (T12_shortest_b89 ih) M a0 a2 a3 (0 : Int32) a5

theorem dd12_shortest : AllD (ib i12_shortest) [(0, .aload_n 0, 1), (1, .iconst 0, 1), (2, .putfield 113, 3), (5, .aload_n 0, 1), (6, .iload_n 1, 1), (7, .invokevirtual 350, 3), (10, .ifCond .ne 5, 3), (13, .iconst (-1), 1), (14, .ireturn, 1), (15, .aload_n 0, 1), (16, .iload_n 1, 1), (17, .invokevirtual 437, 3), (20, .aload_n 0, 1), (21, .invokevirtual 440, 3), (24, .iload_n 2, 1), (25, .iconst (-1), 1), (26, .if_icmp .eq 12, 3), (29, .aload_n 0, 1), (30, .getfield 110, 3), (33, .iconst 0, 1), (34, .iaload, 1), (35, .ifCond .ge 19, 3), (54, .iload_n 2, 1), (55, .iconst 0, 1), (56, .aload_n 0, 1), (57, .getfield 110, 3), (60, .iconst 0, 1), (61, .iaload, 1), (62, .iconst 1, 1), (63, .isub, 1), (64, .invokestatic 124, 3), (67, .ifCond .ne 5, 3), (70, .iconst (-1), 1), (71, .ireturn, 1), (72, .iconst 0, 1), (73, .istore_n 3, 1), (74, .iconst 0, 1), (75, .istore 4, 2), (77, .iconst 0, 1), (78, .istore 5, 2)] := allD_of (by decide +kernel)
def f12_shortest (M : MM) (a0 : Nat) (a1 : Int32) (a2 : Int32) : Option (Int32 × MM) :=
  aO M a0 12 <|
  bM (sI M a0 0 (0 : Int32)) fun M2 =>
  aO M2 a0 12 <|
  cI (f12_isState M2 a0 a1) fun r7 M7 =>
  if r7 = 0 then
    some ((-1 : Int32), M7)
  else
    aO M7 a0 12 <|
    cV (f12_layMachine M7 a0 a1) fun M17 =>
    aO M17 a0 12 <|
    cV (f12_layFar M17 a0) fun M21 =>
    if a2 = (-1 : Int32) then
      f12_shortest_b38 M21 a0 a2
    else
      aO M21 a0 12 <|
      aA M21 (mR M21 a0 54) 0 (0 : Int32) <|
      if 0 ≤ (mI M21 (mR M21 a0 54) (0 : Int32).toNatClampNeg) then
        aO M21 a0 12 <|
        aA M21 (mR M21 a0 54) 0 (0 : Int32) <|
        cI (f12_in M21 a2 (0 : Int32) ((mI M21 (mR M21 a0 54) (0 : Int32).toNatClampNeg) - (1 : Int32))) fun r64 M64 =>
        if r64 = 0 then
          some ((-1 : Int32), M64)
        else
          f12_shortest_b80 M64 a0 a2 (0 : Int32) (0 : Int32) (0 : Int32)
      else
        f12_shortest_b38 M21 a0 a2
set_option maxRecDepth 4000 in
theorem T12_shortest (M : MM) (a0 : Nat) (a1 : Int32) (a2 : Int32) : ∀ q, f12_shortest M a0 a1 a2 = some q → Run i12_shortest [vr a0, vi a1, vi a2] M (Li q) := by
  obtain ⟨d0, d1, d2, d5, d6, d7, d10, d13, d14, d15, d16, d17, d20, d21, d24, d25, d26, d29, d30, d33, d34, d35, d54, d55, d56, d57, d60, d61, d62, d63, d64, d67, d70, d71, d72, d73, d74, d75, d77, d78, -⟩ := dd12_shortest
  refine Run_of_X (by decide) (Nat.le_of_ble_eq_true rfl) ?_
  show X Li i12_shortest 0 [(0, vr a0), (1, vi a1), (2, vi a2)] [] M _
  unfold f12_shortest
  refine X_aloadn 0 d0 rfl ?_
  refine X_iconst k_i_0 d1 ?_
  refine X_putI d2 fp_x12_113 ?_
  refine X_bM fun M2 _ => ?_
  refine X_aloadn 0 d5 rfl ?_
  refine X_iloadn 1 d6 rfl ?_
  refine X_cVi (as := [vi a1]) d7 cv_x12_350 ⟨by decide, by decide⟩ rfl (Nat.le_of_ble_eq_true rfl) (T12_isState M2 a0 a1) (fun r7 M7 _ => ?_)
  refine X_if_ne (t := 15) d10 rfl (fun h10 => ?_) (fun h10 => ?_)
  · refine X_iconst k_i_m1 d13 ?_
    exact X_ireturn d14 rfl rfl
  · refine X_aloadn 0 d15 rfl ?_
    refine X_iloadn 1 d16 rfl ?_
    refine X_cVv (as := [vi a1]) d17 cv_x12_437 ⟨by decide, by decide⟩ rfl (Nat.le_of_ble_eq_true rfl) (T12_layMachine M7 a0 a1) (fun M17 _ => ?_)
    refine X_aloadn 0 d20 rfl ?_
    refine X_cVv (as := []) d21 cv_x12_440 ⟨by decide, by decide⟩ rfl (Nat.le_of_ble_eq_true rfl) (T12_layFar M17 a0) (fun M21 _ => ?_)
    refine X_iloadn 2 d24 rfl ?_
    refine X_iconst k_i_m1 d25 ?_
    refine X_icmp_eq (t := 38) d26 rfl (fun h26 => ?_) (fun h26 => ?_)
    · refine X_sub [0, 2] rfl ?_
      exact T12_shortest_b38 M21 a0 a2
    · refine X_aloadn 0 d29 rfl ?_
      refine X_getR d30 fg_x12_110 ?_
      refine X_iconst k_i_0 d33 ?_
      refine X_iaload d34 ?_
      refine X_if_ge (t := 54) d35 rfl (fun h35 => ?_) (fun h35 => ?_)
      · refine X_iloadn 2 d54 rfl ?_
        refine X_iconst k_i_0 d55 ?_
        refine X_aloadn 0 d56 rfl ?_
        refine X_getR d57 fg_x12_110 ?_
        refine X_iconst k_i_0 d60 ?_
        refine X_iaload d61 ?_
        refine X_iconst k_i_1 d62 ?_
        refine X_isub d63 ?_
        refine X_cSi (as := [vi a2, vi (0 : Int32), vi ((mI M21 (mR M21 a0 54) (0 : Int32).toNatClampNeg) - (1 : Int32))]) d64 cs_x12_124 ⟨by decide, by decide⟩ rfl (Nat.le_of_ble_eq_true rfl) (T12_in M21 a2 (0 : Int32) ((mI M21 (mR M21 a0 54) (0 : Int32).toNatClampNeg) - (1 : Int32))) (fun r64 M64 _ => ?_)
        refine X_if_ne (t := 72) d67 rfl (fun h67 => ?_) (fun h67 => ?_)
        · refine X_iconst k_i_m1 d70 ?_
          exact X_ireturn d71 rfl rfl
        · refine X_iconst k_i_0 d72 ?_
          refine X_istoren (lv' := [(3, vi (0 : Int32)), (0, vr a0), (1, vi a1), (2, vi a2)]) d73 (by decide) rfl ?_
          refine X_iconst k_i_0 d74 ?_
          refine X_istore (lv' := [(4, vi (0 : Int32)), (3, vi (0 : Int32)), (0, vr a0), (1, vi a1), (2, vi a2)]) d75 (by decide) rfl ?_
          refine X_iconst k_i_0 d77 ?_
          refine X_istore (lv' := [(5, vi (0 : Int32)), (4, vi (0 : Int32)), (3, vi (0 : Int32)), (0, vr a0), (1, vi a1), (2, vi a2)]) d78 (by decide) rfl ?_
          refine X_sub [3, 5, 2, 1, 0] rfl ?_
          exact T12_shortest_b80 M64 a0 a2 (0 : Int32) (0 : Int32) (0 : Int32)
      · refine X_sub [0, 2] rfl ?_
        exact T12_shortest_b38 M21 a0 a2

theorem dd12_stacks_b95 : AllD (ib i12_stacks) [(95, .lconst 0, 1)] := allD_of (by decide +kernel)
def f12_stacks_b95 (K96 : MM → Nat → Int32 → Int32 → Int32 → Int32 → Int32 → Int64 → Option (Int64 × MM)) (M : MM) (a0 : Nat) (a2 : Int32) (a3 : Int32) (a4 : Int32) (a5 : Int32) (a6 : Int32) : Option (Int64 × MM) :=
  K96 M a0 a2 a3 a4 a5 a6 (0 : Int64)
set_option maxRecDepth 4000 in
theorem T12_stacks_b95 {K96 : MM → Nat → Int32 → Int32 → Int32 → Int32 → Int32 → Int64 → Option (Int64 × MM)} (hK96 : ∀ (M : MM) (a0 : Nat) (a2 : Int32) (a3 : Int32) (a4 : Int32) (a5 : Int32) (a6 : Int32) (s0 : Int64), X Ll i12_stacks 96 [(0, vr a0), (2, vi a2), (3, vi a3), (4, vi a4), (5, vi a5), (6, vi a6)] [vl s0] M (K96 M a0 a2 a3 a4 a5 a6 s0)) : ∀ (M : MM) (a0 : Nat) (a2 : Int32) (a3 : Int32) (a4 : Int32) (a5 : Int32) (a6 : Int32), X Ll i12_stacks 95 [(0, vr a0), (2, vi a2), (3, vi a3), (4, vi a4), (5, vi a5), (6, vi a6)] [] M (f12_stacks_b95 K96 M a0 a2 a3 a4 a5 a6) := by
  obtain ⟨d95, -⟩ := dd12_stacks_b95
  intro M a0 a2 a3 a4 a5 a6
  unfold f12_stacks_b95
  refine X_lconst k_l_0 d95 ?_
  exact hK96 M a0 a2 a3 a4 a5 a6 (0 : Int64)

theorem dd12_stacks_b155 : AllD (ib i12_stacks) [(155, .aload_n 0, 1), (156, .getfield 107, 3), (159, .iload 4, 2), (161, .iload 6, 2), (163, .iadd, 1), (164, .lload 7, 2), (166, .lastore, 1), (167, .iinc 6 1, 3), (170, .goto (-111), 3)] := allD_of (by decide +kernel)
def f12_stacks_b155 (K59 : MM → Nat → Int32 → Int32 → Int32 → Int32 → Int32 → Option (Int64 × MM)) (M : MM) (a0 : Nat) (a2 : Int32) (a3 : Int32) (a4 : Int32) (a5 : Int32) (a6 : Int32) (a7 : Int64) : Option (Int64 × MM) :=
  aO M a0 12 <|
  aA M (mR M a0 53) 1 (a4 + a6) <|
  bM (sJ M (mR M a0 53) (a4 + a6).toNatClampNeg a7) fun M166 =>
  K59 M166 a0 a2 a3 a4 a5 (a6 + (1 : Int32))
set_option maxRecDepth 4000 in
theorem T12_stacks_b155 {K59 : MM → Nat → Int32 → Int32 → Int32 → Int32 → Int32 → Option (Int64 × MM)} (hK59 : ∀ (M : MM) (a0 : Nat) (a2 : Int32) (a3 : Int32) (a4 : Int32) (a5 : Int32) (a6 : Int32), X Ll i12_stacks 59 [(0, vr a0), (2, vi a2), (3, vi a3), (4, vi a4), (5, vi a5), (6, vi a6)] [] M (K59 M a0 a2 a3 a4 a5 a6)) : ∀ (M : MM) (a0 : Nat) (a2 : Int32) (a3 : Int32) (a4 : Int32) (a5 : Int32) (a6 : Int32) (a7 : Int64), X Ll i12_stacks 155 [(0, vr a0), (2, vi a2), (3, vi a3), (4, vi a4), (5, vi a5), (6, vi a6), (7, vl a7)] [] M (f12_stacks_b155 K59 M a0 a2 a3 a4 a5 a6 a7) := by
  obtain ⟨d155, d156, d159, d161, d163, d164, d166, d167, d170, -⟩ := dd12_stacks_b155
  intro M a0 a2 a3 a4 a5 a6 a7
  unfold f12_stacks_b155
  refine X_aloadn 0 d155 rfl ?_
  refine X_getR d156 fg_x12_107 ?_
  refine X_iload 3 d159 rfl ?_
  refine X_iload 5 d161 rfl ?_
  refine X_iadd d163 ?_
  refine X_lload 6 d164 rfl ?_
  refine X_lastore d166 ?_
  refine X_bM fun M166 _ => ?_
  refine X_inc (lv' := [(6, vi (a6 + (1 : Int32))), (0, vr a0), (2, vi a2), (3, vi a3), (4, vi a4), (5, vi a5), (7, vl a7)]) 5 d167 k_i_1 rfl (by decide) rfl ?_
  refine X_goto (t := 59) d170 rfl ?_
  refine X_sub [1, 2, 3, 4, 5, 0] rfl ?_
  exact hK59 M166 a0 a2 a3 a4 a5 (a6 + (1 : Int32))

theorem dd12_stacks_b101 : AllD (ib i12_stacks) [(101, .iload 9, 2), (103, .aload_n 0, 1), (104, .invokevirtual 128, 3), (107, .if_icmp .ge 48, 3), (110, .iload_n 3, 1), (111, .ifCond .le 44, 3), (114, .lload 7, 2), (116, .aload_n 0, 1), (117, .getfield 107, 3), (120, .iload 5, 2), (122, .aload_n 0, 1), (123, .aload_n 0, 1), (124, .getfield 92, 3), (127, .bipush 6, 2), (129, .aload_n 0, 1), (130, .getfield 101, 3), (133, .iload 6, 2), (135, .iaload, 1), (136, .imul, 1), (137, .iload 9, 2), (139, .iadd, 1), (140, .iaload, 1), (141, .invokevirtual 434, 3), (144, .iadd, 1), (145, .laload, 1), (146, .ladd, 1), (147, .lstore 7, 2), (149, .iinc 9 1, 3), (152, .goto (-51), 3)] := allD_of (by decide +kernel)
def f12_stacks_b101_body (K59 : MM → Nat → Int32 → Int32 → Int32 → Int32 → Int32 → Option (Int64 × MM)) (rc : MM → Nat → Int32 → Int32 → Int32 → Int32 → Int32 → Int64 → Int32 → Option (Int64 × MM)) (M : MM) (a0 : Nat) (a2 : Int32) (a3 : Int32) (a4 : Int32) (a5 : Int32) (a6 : Int32) (a7 : Int64) (a9 : Int32) : Option (Int64 × MM) :=
  aO M a0 12 <|
  cI (f12_signs M a0) fun r104 M104 =>
  if r104 ≤ a9 then
    (f12_stacks_b155 K59) M104 a0 a2 a3 a4 a5 a6 a7
  else
    if a3 ≤ 0 then
      (f12_stacks_b155 K59) M104 a0 a2 a3 a4 a5 a6 a7
    else
      aO M104 a0 12 <|
      aO M104 a0 12 <|
      aO M104 a0 12 <|
      aA M104 (mR M104 a0 50) 0 a6 <|
      aA M104 (mR M104 a0 44) 0 (((6 : Int32) * (mI M104 (mR M104 a0 50) a6.toNatClampNeg)) + a9) <|
      aO M104 a0 12 <|
      cI (f12_nodeFor M104 a0 (mI M104 (mR M104 a0 44) (((6 : Int32) * (mI M104 (mR M104 a0 50) a6.toNatClampNeg)) + a9).toNatClampNeg)) fun r141 M141 =>
      aA M141 (mR M104 a0 53) 1 (a5 + r141) <|
      bW (a7 + (mJ M141 (mR M104 a0 53) (a5 + r141).toNatClampNeg)) fun v147 =>
      rc M141 a0 a2 a3 a4 a5 a6 v147 (a9 + (1 : Int32))
def f12_stacks_b101 (K59 : MM → Nat → Int32 → Int32 → Int32 → Int32 → Int32 → Option (Int64 × MM)) : MM → Nat → Int32 → Int32 → Int32 → Int32 → Int32 → Int64 → Int32 → Option (Int64 × MM) := LP9 (f12_stacks_b101_body K59) FU
set_option maxRecDepth 4000 in
theorem T12_stacks_b101 {K59 : MM → Nat → Int32 → Int32 → Int32 → Int32 → Int32 → Option (Int64 × MM)} (hK59 : ∀ (M : MM) (a0 : Nat) (a2 : Int32) (a3 : Int32) (a4 : Int32) (a5 : Int32) (a6 : Int32), X Ll i12_stacks 59 [(0, vr a0), (2, vi a2), (3, vi a3), (4, vi a4), (5, vi a5), (6, vi a6)] [] M (K59 M a0 a2 a3 a4 a5 a6)) : ∀ (M : MM) (a0 : Nat) (a2 : Int32) (a3 : Int32) (a4 : Int32) (a5 : Int32) (a6 : Int32) (a7 : Int64) (a9 : Int32), X Ll i12_stacks 101 [(0, vr a0), (2, vi a2), (3, vi a3), (4, vi a4), (5, vi a5), (6, vi a6), (7, vl a7), (9, vi a9)] [] M (f12_stacks_b101 K59 M a0 a2 a3 a4 a5 a6 a7 a9) := by
  obtain ⟨d101, d103, d104, d107, d110, d111, d114, d116, d117, d120, d122, d123, d124, d127, d129, d130, d133, d135, d136, d137, d139, d140, d141, d144, d145, d146, d147, d149, d152, -⟩ := dd12_stacks_b101
  refine LP9_i (P := fun M a0 a2 a3 a4 a5 a6 a7 a9 o => X Ll i12_stacks 101 [(0, vr a0), (2, vi a2), (3, vi a3), (4, vi a4), (5, vi a5), (6, vi a6), (7, vl a7), (9, vi a9)] [] M o) (fun _ _ _ _ _ _ _ _ _ => X_none) (fun rc ih M a0 a2 a3 a4 a5 a6 a7 a9 => ?_) FU
  unfold f12_stacks_b101_body
  refine X_iload 7 d101 rfl ?_
  refine X_aloadn 0 d103 rfl ?_
  refine X_cVi (as := []) d104 cv_x12_128 ⟨by decide, by decide⟩ rfl (Nat.le_of_ble_eq_true rfl) (T12_signs M a0) (fun r104 M104 _ => ?_)
  refine X_icmp_ge (t := 155) d107 rfl (fun h107 => ?_) (fun h107 => ?_)
  · refine X_sub [0, 1, 2, 3, 4, 5, 6] rfl ?_
    exact (T12_stacks_b155 hK59) M104 a0 a2 a3 a4 a5 a6 a7
  · refine X_iloadn 2 d110 rfl ?_
    refine X_if_le (t := 155) d111 rfl (fun h111 => ?_) (fun h111 => ?_)
    · refine X_sub [0, 1, 2, 3, 4, 5, 6] rfl ?_
      exact (T12_stacks_b155 hK59) M104 a0 a2 a3 a4 a5 a6 a7
    · refine X_lload 6 d114 rfl ?_
      refine X_aloadn 0 d116 rfl ?_
      refine X_getR d117 fg_x12_107 ?_
      refine X_iload 4 d120 rfl ?_
      refine X_aloadn 0 d122 rfl ?_
      refine X_aloadn 0 d123 rfl ?_
      refine X_getR d124 fg_x12_92 ?_
      refine X_bipush k_b_6 d127 ?_
      refine X_aloadn 0 d129 rfl ?_
      refine X_getR d130 fg_x12_101 ?_
      refine X_iload 5 d133 rfl ?_
      refine X_iaload d135 ?_
      refine X_imul d136 ?_
      refine X_iload 7 d137 rfl ?_
      refine X_iadd d139 ?_
      refine X_iaload d140 ?_
      refine X_cVi (as := [vi (mI M104 (mR M104 a0 44) (((6 : Int32) * (mI M104 (mR M104 a0 50) a6.toNatClampNeg)) + a9).toNatClampNeg)]) d141 cv_x12_434 ⟨by decide, by decide⟩ rfl (Nat.le_of_ble_eq_true rfl) (T12_nodeFor M104 a0 (mI M104 (mR M104 a0 44) (((6 : Int32) * (mI M104 (mR M104 a0 50) a6.toNatClampNeg)) + a9).toNatClampNeg)) (fun r141 M141 _ => ?_)
      refine X_iadd d144 ?_
      refine X_laload d145 ?_
      refine X_ladd d146 ?_
      refine X_bWl fun v147 _ => ?_
      refine X_lstore (lv' := [(7, vl v147), (0, vr a0), (2, vi a2), (3, vi a3), (4, vi a4), (5, vi a5), (6, vi a6), (9, vi a9)]) d147 (by decide) rfl ?_
      refine X_inc (lv' := [(9, vi (a9 + (1 : Int32))), (7, vl v147), (0, vr a0), (2, vi a2), (3, vi a3), (4, vi a4), (5, vi a5), (6, vi a6)]) 7 d149 k_i_1 rfl (by decide) rfl ?_
      refine X_goto (t := 101) d152 rfl ?_
      refine X_sub [2, 3, 4, 5, 6, 7, 1, 0] rfl ?_
      exact ih M141 a0 a2 a3 a4 a5 a6 v147 (a9 + (1 : Int32))

theorem dd12_stacks_b96 : AllD (ib i12_stacks) [(96, .lstore 7, 2), (98, .iconst 0, 1), (99, .istore 9, 2)] := allD_of (by decide +kernel)
def f12_stacks_b96 (K59 : MM → Nat → Int32 → Int32 → Int32 → Int32 → Int32 → Option (Int64 × MM)) (M : MM) (a0 : Nat) (a2 : Int32) (a3 : Int32) (a4 : Int32) (a5 : Int32) (a6 : Int32) (s0 : Int64) : Option (Int64 × MM) :=
  (f12_stacks_b101 K59) M a0 a2 a3 a4 a5 a6 s0 (0 : Int32)
set_option maxRecDepth 4000 in
theorem T12_stacks_b96 {K59 : MM → Nat → Int32 → Int32 → Int32 → Int32 → Int32 → Option (Int64 × MM)} (hK59 : ∀ (M : MM) (a0 : Nat) (a2 : Int32) (a3 : Int32) (a4 : Int32) (a5 : Int32) (a6 : Int32), X Ll i12_stacks 59 [(0, vr a0), (2, vi a2), (3, vi a3), (4, vi a4), (5, vi a5), (6, vi a6)] [] M (K59 M a0 a2 a3 a4 a5 a6)) : ∀ (M : MM) (a0 : Nat) (a2 : Int32) (a3 : Int32) (a4 : Int32) (a5 : Int32) (a6 : Int32) (s0 : Int64), X Ll i12_stacks 96 [(0, vr a0), (2, vi a2), (3, vi a3), (4, vi a4), (5, vi a5), (6, vi a6)] [vl s0] M (f12_stacks_b96 K59 M a0 a2 a3 a4 a5 a6 s0) := by
  obtain ⟨d96, d98, d99, -⟩ := dd12_stacks_b96
  intro M a0 a2 a3 a4 a5 a6 s0
  unfold f12_stacks_b96
  refine X_lstore (lv' := [(7, vl s0), (0, vr a0), (2, vi a2), (3, vi a3), (4, vi a4), (5, vi a5), (6, vi a6)]) d96 (by decide) rfl ?_
  refine X_iconst k_i_0 d98 ?_
  refine X_istore (lv' := [(9, vi (0 : Int32)), (7, vl s0), (0, vr a0), (2, vi a2), (3, vi a3), (4, vi a4), (5, vi a5), (6, vi a6)]) d99 (by decide) rfl ?_
  refine X_sub [2, 3, 4, 5, 6, 7, 1, 0] rfl ?_
  exact (T12_stacks_b101 hK59) M a0 a2 a3 a4 a5 a6 s0 (0 : Int32)

theorem dd12_stacks_b59 : AllD (ib i12_stacks) [(59, .iload 6, 2), (61, .aload_n 0, 1), (62, .getfield 428, 3), (65, .if_icmp .ge 108, 3), (68, .iload_n 3, 1), (69, .ifCond .ne 26, 3), (72, .aload_n 0, 1), (73, .aload_n 0, 1), (74, .getfield 88, 3), (77, .aload_n 0, 1), (78, .getfield 101, 3), (81, .iload 6, 2), (83, .iaload, 1), (84, .iaload, 1), (85, .invokevirtual 419, 3), (88, .ifCond .eq 7, 3), (91, .lconst 1, 1), (92, .goto 4, 3), (173, .iinc 3 1, 3), (176, .goto (-142), 3)] := allD_of (by decide +kernel)
def f12_stacks_b59_body (K34 : MM → Nat → Int32 → Int32 → Option (Int64 × MM)) (rc : MM → Nat → Int32 → Int32 → Int32 → Int32 → Int32 → Option (Int64 × MM)) (M : MM) (a0 : Nat) (a2 : Int32) (a3 : Int32) (a4 : Int32) (a5 : Int32) (a6 : Int32) : Option (Int64 × MM) :=
  aO M a0 12 <|
  if (mI M a0 52) ≤ a6 then
    K34 M a0 a2 (a3 + (1 : Int32))
  else
    if a3 = 0 then
      aO M a0 12 <|
      aO M a0 12 <|
      aA M (mR M a0 50) 0 a6 <|
      aA M (mR M a0 43) 0 (mI M (mR M a0 50) a6.toNatClampNeg) <|
      aO M a0 12 <|
      cI (f12_isGoodSet M a0 (mI M (mR M a0 43) (mI M (mR M a0 50) a6.toNatClampNeg).toNatClampNeg)) fun r85 M85 =>
      if r85 = 0 then
        (f12_stacks_b95 (f12_stacks_b96 rc)) M85 a0 a2 a3 a4 a5 a6
      else
        (f12_stacks_b96 rc) M85 a0 a2 a3 a4 a5 a6 (1 : Int64)
    else
      (f12_stacks_b95 (f12_stacks_b96 rc)) M a0 a2 a3 a4 a5 a6
def f12_stacks_b59 (K34 : MM → Nat → Int32 → Int32 → Option (Int64 × MM)) : MM → Nat → Int32 → Int32 → Int32 → Int32 → Int32 → Option (Int64 × MM) := LP7 (f12_stacks_b59_body K34) FU
set_option maxRecDepth 4000 in
theorem T12_stacks_b59 {K34 : MM → Nat → Int32 → Int32 → Option (Int64 × MM)} (hK34 : ∀ (M : MM) (a0 : Nat) (a2 : Int32) (a3 : Int32), X Ll i12_stacks 34 [(0, vr a0), (2, vi a2), (3, vi a3)] [] M (K34 M a0 a2 a3)) : ∀ (M : MM) (a0 : Nat) (a2 : Int32) (a3 : Int32) (a4 : Int32) (a5 : Int32) (a6 : Int32), X Ll i12_stacks 59 [(0, vr a0), (2, vi a2), (3, vi a3), (4, vi a4), (5, vi a5), (6, vi a6)] [] M (f12_stacks_b59 K34 M a0 a2 a3 a4 a5 a6) := by
  obtain ⟨d59, d61, d62, d65, d68, d69, d72, d73, d74, d77, d78, d81, d83, d84, d85, d88, d91, d92, d173, d176, -⟩ := dd12_stacks_b59
  refine LP7_i (P := fun M a0 a2 a3 a4 a5 a6 o => X Ll i12_stacks 59 [(0, vr a0), (2, vi a2), (3, vi a3), (4, vi a4), (5, vi a5), (6, vi a6)] [] M o) (fun _ _ _ _ _ _ _ => X_none) (fun rc ih M a0 a2 a3 a4 a5 a6 => ?_) FU
  unfold f12_stacks_b59_body
  refine X_iload 5 d59 rfl ?_
  refine X_aloadn 0 d61 rfl ?_
  refine X_getI d62 fg_x12_428 ?_
  refine X_icmp_ge (t := 173) d65 rfl (fun h65 => ?_) (fun h65 => ?_)
  · refine X_inc (lv' := [(3, vi (a3 + (1 : Int32))), (0, vr a0), (2, vi a2), (4, vi a4), (5, vi a5), (6, vi a6)]) 2 d173 k_i_1 rfl (by decide) rfl ?_
    refine X_goto (t := 34) d176 rfl ?_
    refine X_sub [1, 2, 0] rfl ?_
    exact hK34 M a0 a2 (a3 + (1 : Int32))
  · refine X_iloadn 2 d68 rfl ?_
    refine X_if_ne (t := 95) d69 rfl (fun h69 => ?_) (fun h69 => ?_)
    · refine X_aloadn 0 d72 rfl ?_
      refine X_aloadn 0 d73 rfl ?_
      refine X_getR d74 fg_x12_88 ?_
      refine X_aloadn 0 d77 rfl ?_
      refine X_getR d78 fg_x12_101 ?_
      refine X_iload 5 d81 rfl ?_
      refine X_iaload d83 ?_
      refine X_iaload d84 ?_
      refine X_cVi (as := [vi (mI M (mR M a0 43) (mI M (mR M a0 50) a6.toNatClampNeg).toNatClampNeg)]) d85 cv_x12_419 ⟨by decide, by decide⟩ rfl (Nat.le_of_ble_eq_true rfl) (T12_isGoodSet M a0 (mI M (mR M a0 43) (mI M (mR M a0 50) a6.toNatClampNeg).toNatClampNeg)) (fun r85 M85 _ => ?_)
      refine X_if_eq (t := 95) d88 rfl (fun h88 => ?_) (fun h88 => ?_)
      · exact (T12_stacks_b95 (T12_stacks_b96 ih)) M85 a0 a2 a3 a4 a5 a6
      · refine X_lconst k_l_1 d91 ?_
        refine X_goto (t := 96) d92 rfl ?_
        exact (T12_stacks_b96 ih) M85 a0 a2 a3 a4 a5 a6 (1 : Int64)
    · exact (T12_stacks_b95 (T12_stacks_b96 ih)) M a0 a2 a3 a4 a5 a6

theorem dd12_stacks_b34 : AllD (ib i12_stacks) [(34, .iload_n 3, 1), (35, .iload_n 2, 1), (36, .if_icmp .gt 143, 3), (39, .sipush 8192, 3), (42, .iload_n 3, 1), (43, .iconst 2, 1), (44, .irem, 1), (45, .imul, 1), (46, .istore 4, 2), (48, .sipush 8192, 3), (51, .iload 4, 2), (53, .isub, 1), (54, .istore 5, 2), (56, .iconst 0, 1), (57, .istore 6, 2), (179, .aload_n 0, 1), (180, .getfield 107, 3), (183, .sipush 8192, 3), (186, .iload_n 2, 1), (187, .iconst 2, 1), (188, .irem, 1), (189, .imul, 1), (190, .laload, 1), (191, .lreturn, 1)] := allD_of (by decide +kernel)
def f12_stacks_b34_body (rc : MM → Nat → Int32 → Int32 → Option (Int64 × MM)) (M : MM) (a0 : Nat) (a2 : Int32) (a3 : Int32) : Option (Int64 × MM) :=
  if a2 < a3 then
    aO M a0 12 <|
    gd (¬ (2 : Int32) = 0) <|
    aA M (mR M a0 53) 1 ((8192 : Int32) * (a2 - a2 / (2 : Int32) * (2 : Int32))) <|
    some (mJ M (mR M a0 53) ((8192 : Int32) * (a2 - a2 / (2 : Int32) * (2 : Int32))).toNatClampNeg, M)
  else
    gd (¬ (2 : Int32) = 0) <|
    bW ((8192 : Int32) * (a3 - a3 / (2 : Int32) * (2 : Int32))) fun v46 =>
    bW ((8192 : Int32) - v46) fun v54 =>
    (f12_stacks_b59 rc) M a0 a2 a3 v46 v54 (0 : Int32)
def f12_stacks_b34 : MM → Nat → Int32 → Int32 → Option (Int64 × MM) := LP4 (f12_stacks_b34_body) FU
set_option maxRecDepth 4000 in
theorem T12_stacks_b34 : ∀ (M : MM) (a0 : Nat) (a2 : Int32) (a3 : Int32), X Ll i12_stacks 34 [(0, vr a0), (2, vi a2), (3, vi a3)] [] M (f12_stacks_b34 M a0 a2 a3) := by
  obtain ⟨d34, d35, d36, d39, d42, d43, d44, d45, d46, d48, d51, d53, d54, d56, d57, d179, d180, d183, d186, d187, d188, d189, d190, d191, -⟩ := dd12_stacks_b34
  refine LP4_i (P := fun M a0 a2 a3 o => X Ll i12_stacks 34 [(0, vr a0), (2, vi a2), (3, vi a3)] [] M o) (fun _ _ _ _ => X_none) (fun rc ih M a0 a2 a3 => ?_) FU
  unfold f12_stacks_b34_body
  refine X_iloadn 2 d34 rfl ?_
  refine X_iloadn 1 d35 rfl ?_
  refine X_icmp_gt (t := 179) d36 rfl (fun h36 => ?_) (fun h36 => ?_)
  · refine X_aloadn 0 d179 rfl ?_
    refine X_getR d180 fg_x12_107 ?_
    refine X_sipush k_s_8192 d183 ?_
    refine X_iloadn 1 d186 rfl ?_
    refine X_iconst k_i_2 d187 ?_
    refine X_irem d188 ?_
    refine X_imul d189 ?_
    refine X_laload d190 ?_
    exact X_lreturn d191 rfl rfl
  · refine X_sipush k_s_8192 d39 ?_
    refine X_iloadn 2 d42 rfl ?_
    refine X_iconst k_i_2 d43 ?_
    refine X_irem d44 ?_
    refine X_imul d45 ?_
    refine X_bWi fun v46 _ => ?_
    refine X_istore (lv' := [(4, vi v46), (0, vr a0), (2, vi a2), (3, vi a3)]) d46 (by decide) rfl ?_
    refine X_sipush k_s_8192 d48 ?_
    refine X_iload 0 d51 rfl ?_
    refine X_isub d53 ?_
    refine X_bWi fun v54 _ => ?_
    refine X_istore (lv' := [(5, vi v54), (4, vi v46), (0, vr a0), (2, vi a2), (3, vi a3)]) d54 (by decide) rfl ?_
    refine X_iconst k_i_0 d56 ?_
    refine X_istore (lv' := [(6, vi (0 : Int32)), (5, vi v54), (4, vi v46), (0, vr a0), (2, vi a2), (3, vi a3)]) d57 (by decide) rfl ?_
    refine X_sub [3, 4, 5, 2, 1, 0] rfl ?_
    exact (T12_stacks_b59 ih) M a0 a2 a3 v46 v54 (0 : Int32)

theorem dd12_stacks : AllD (ib i12_stacks) [(0, .aload_n 0, 1), (1, .iconst 0, 1), (2, .putfield 113, 3), (5, .aload_n 0, 1), (6, .iload_n 1, 1), (7, .invokevirtual 350, 3), (10, .ifCond .eq 13, 3), (13, .iload_n 2, 1), (14, .iconst 0, 1), (15, .bipush 12, 2), (17, .invokestatic 124, 3), (20, .ifCond .ne 7, 3), (23, .ldc2_w 116, 3), (26, .lreturn, 1), (27, .aload_n 0, 1), (28, .iload_n 1, 1), (29, .invokevirtual 437, 3), (32, .iconst 0, 1), (33, .istore_n 3, 1)] := allD_of (by decide +kernel)
def f12_stacks (M : MM) (a0 : Nat) (a1 : Int32) (a2 : Int32) : Option (Int64 × MM) :=
  aO M a0 12 <|
  bM (sI M a0 0 (0 : Int32)) fun M2 =>
  aO M2 a0 12 <|
  cI (f12_isState M2 a0 a1) fun r7 M7 =>
  if r7 = 0 then
    some ((-1 : Int64), M7)
  else
    cI (f12_in M7 a2 (0 : Int32) (12 : Int32)) fun r17 M17 =>
    if r17 = 0 then
      some ((-1 : Int64), M17)
    else
      aO M17 a0 12 <|
      cV (f12_layMachine M17 a0 a1) fun M29 =>
      f12_stacks_b34 M29 a0 a2 (0 : Int32)
set_option maxRecDepth 4000 in
theorem T12_stacks (M : MM) (a0 : Nat) (a1 : Int32) (a2 : Int32) : ∀ q, f12_stacks M a0 a1 a2 = some q → Run i12_stacks [vr a0, vi a1, vi a2] M (Ll q) := by
  obtain ⟨d0, d1, d2, d5, d6, d7, d10, d13, d14, d15, d17, d20, d23, d26, d27, d28, d29, d32, d33, -⟩ := dd12_stacks
  refine Run_of_X (by decide) (Nat.le_of_ble_eq_true rfl) ?_
  show X Ll i12_stacks 0 [(0, vr a0), (1, vi a1), (2, vi a2)] [] M _
  unfold f12_stacks
  refine X_aloadn 0 d0 rfl ?_
  refine X_iconst k_i_0 d1 ?_
  refine X_putI d2 fp_x12_113 ?_
  refine X_bM fun M2 _ => ?_
  refine X_aloadn 0 d5 rfl ?_
  refine X_iloadn 1 d6 rfl ?_
  refine X_cVi (as := [vi a1]) d7 cv_x12_350 ⟨by decide, by decide⟩ rfl (Nat.le_of_ble_eq_true rfl) (T12_isState M2 a0 a1) (fun r7 M7 _ => ?_)
  refine X_if_eq (t := 23) d10 rfl (fun h10 => ?_) (fun h10 => ?_)
  · refine X_ldc2 kc_x12_116 d23 ?_
    exact X_lreturn d26 rfl rfl
  · refine X_iloadn 2 d13 rfl ?_
    refine X_iconst k_i_0 d14 ?_
    refine X_bipush k_b_12 d15 ?_
    refine X_cSi (as := [vi a2, vi (0 : Int32), vi (12 : Int32)]) d17 cs_x12_124 ⟨by decide, by decide⟩ rfl (Nat.le_of_ble_eq_true rfl) (T12_in M7 a2 (0 : Int32) (12 : Int32)) (fun r17 M17 _ => ?_)
    refine X_if_ne (t := 27) d20 rfl (fun h20 => ?_) (fun h20 => ?_)
    · refine X_ldc2 kc_x12_116 d23 ?_
      exact X_lreturn d26 rfl rfl
    · refine X_aloadn 0 d27 rfl ?_
      refine X_iloadn 1 d28 rfl ?_
      refine X_cVv (as := [vi a1]) d29 cv_x12_437 ⟨by decide, by decide⟩ rfl (Nat.le_of_ble_eq_true rfl) (T12_layMachine M17 a0 a1) (fun M29 _ => ?_)
      refine X_iconst k_i_0 d32 ?_
      refine X_istoren (lv' := [(3, vi (0 : Int32)), (0, vr a0), (1, vi a1), (2, vi a2)]) d33 (by decide) rfl ?_
      refine X_sub [1, 3, 0] rfl ?_
      exact T12_stacks_b34 M29 a0 a2 (0 : Int32)

theorem dd12_step : AllD (ib i12_step) [(0, .aload_n 0, 1), (1, .iconst 0, 1), (2, .putfield 113, 3), (5, .aload_n 0, 1), (6, .iload_n 1, 1), (7, .invokevirtual 249, 3), (10, .ifCond .eq 14, 3), (13, .aload_n 0, 1), (14, .invokevirtual 271, 3), (17, .iload_n 1, 1), (18, .invokestatic 134, 3), (21, .ifCond .ne 5, 3), (24, .iconst (-1), 1), (25, .ireturn, 1), (26, .aload_n 0, 1), (27, .invokevirtual 261, 3), (30, .aload_n 0, 1), (31, .iload_n 1, 1), (32, .invokevirtual 274, 3), (35, .aload_n 0, 1), (36, .getfield 255, 3), (39, .ireturn, 1)] := allD_of (by decide +kernel)
def f12_step (M : MM) (a0 : Nat) (a1 : Int32) : Option (Int32 × MM) :=
  aO M a0 12 <|
  bM (sI M a0 0 (0 : Int32)) fun M2 =>
  aO M2 a0 12 <|
  cI (f12_isRule M2 a0 a1) fun r7 M7 =>
  if r7 = 0 then
    some ((-1 : Int32), M7)
  else
    aO M7 a0 12 <|
    cI (f12_allThatCan M7 a0) fun r14 M14 =>
    cI (f12_isOf M14 r14 a1) fun r18 M18 =>
    if r18 = 0 then
      some ((-1 : Int32), M18)
    else
      aO M18 a0 12 <|
      cV (f12_keep M18 a0) fun M27 =>
      aO M27 a0 12 <|
      cV (f12_does M27 a0 a1) fun M32 =>
      aO M32 a0 12 <|
      some (mI M32 a0 21, M32)
set_option maxRecDepth 4000 in
theorem T12_step (M : MM) (a0 : Nat) (a1 : Int32) : ∀ q, f12_step M a0 a1 = some q → Run i12_step [vr a0, vi a1] M (Li q) := by
  obtain ⟨d0, d1, d2, d5, d6, d7, d10, d13, d14, d17, d18, d21, d24, d25, d26, d27, d30, d31, d32, d35, d36, d39, -⟩ := dd12_step
  refine Run_of_X (by decide) (Nat.le_of_ble_eq_true rfl) ?_
  show X Li i12_step 0 [(0, vr a0), (1, vi a1)] [] M _
  unfold f12_step
  refine X_aloadn 0 d0 rfl ?_
  refine X_iconst k_i_0 d1 ?_
  refine X_putI d2 fp_x12_113 ?_
  refine X_bM fun M2 _ => ?_
  refine X_aloadn 0 d5 rfl ?_
  refine X_iloadn 1 d6 rfl ?_
  refine X_cVi (as := [vi a1]) d7 cv_x12_249 ⟨by decide, by decide⟩ rfl (Nat.le_of_ble_eq_true rfl) (T12_isRule M2 a0 a1) (fun r7 M7 _ => ?_)
  refine X_if_eq (t := 24) d10 rfl (fun h10 => ?_) (fun h10 => ?_)
  · refine X_iconst k_i_m1 d24 ?_
    exact X_ireturn d25 rfl rfl
  · refine X_aloadn 0 d13 rfl ?_
    refine X_cVi (as := []) d14 cv_x12_271 ⟨by decide, by decide⟩ rfl (Nat.le_of_ble_eq_true rfl) (T12_allThatCan M7 a0) (fun r14 M14 _ => ?_)
    refine X_iloadn 1 d17 rfl ?_
    refine X_cSi (as := [vi r14, vi a1]) d18 cs_x12_134 ⟨by decide, by decide⟩ rfl (Nat.le_of_ble_eq_true rfl) (T12_isOf M14 r14 a1) (fun r18 M18 _ => ?_)
    refine X_if_ne (t := 26) d21 rfl (fun h21 => ?_) (fun h21 => ?_)
    · refine X_iconst k_i_m1 d24 ?_
      exact X_ireturn d25 rfl rfl
    · refine X_aloadn 0 d26 rfl ?_
      refine X_cVv (as := []) d27 cv_x12_261 ⟨by decide, by decide⟩ rfl (Nat.le_of_ble_eq_true rfl) (T12_keep M18 a0) (fun M27 _ => ?_)
      refine X_aloadn 0 d30 rfl ?_
      refine X_iloadn 1 d31 rfl ?_
      refine X_cVv (as := [vi a1]) d32 cv_x12_274 ⟨by decide, by decide⟩ rfl (Nat.le_of_ble_eq_true rfl) (T12_does M27 a0 a1) (fun M32 _ => ?_)
      refine X_aloadn 0 d35 rfl ?_
      refine X_getI d36 fg_x12_255 ?_
      exact X_ireturn d39 rfl rfl

theorem dd12_stuck_b95 : AllD (ib i12_stuck) [(95, .lstore_n 1, 1), (96, .iinc 4 1, 3), (99, .goto (-70), 3)] := allD_of (by decide +kernel)
def f12_stuck_b95 (K29 : MM → Nat → Int64 → Int32 → Int32 → Option (Int64 × MM)) (M : MM) (a0 : Nat) (a3 : Int32) (a4 : Int32) (s0 : Int64) : Option (Int64 × MM) :=
  K29 M a0 s0 a3 (a4 + (1 : Int32))
set_option maxRecDepth 4000 in
theorem T12_stuck_b95 {K29 : MM → Nat → Int64 → Int32 → Int32 → Option (Int64 × MM)} (hK29 : ∀ (M : MM) (a0 : Nat) (a1 : Int64) (a3 : Int32) (a4 : Int32), X Ll i12_stuck 29 [(0, vr a0), (1, vl a1), (3, vi a3), (4, vi a4)] [] M (K29 M a0 a1 a3 a4)) : ∀ (M : MM) (a0 : Nat) (a3 : Int32) (a4 : Int32) (s0 : Int64), X Ll i12_stuck 95 [(0, vr a0), (3, vi a3), (4, vi a4)] [vl s0] M (f12_stuck_b95 K29 M a0 a3 a4 s0) := by
  obtain ⟨d95, d96, d99, -⟩ := dd12_stuck_b95
  intro M a0 a3 a4 s0
  unfold f12_stuck_b95
  refine X_lstoren (lv' := [(1, vl s0), (0, vr a0), (3, vi a3), (4, vi a4)]) d95 (by decide) rfl ?_
  refine X_inc (lv' := [(4, vi (a4 + (1 : Int32))), (1, vl s0), (0, vr a0), (3, vi a3)]) 3 d96 k_i_1 rfl (by decide) rfl ?_
  refine X_goto (t := 29) d99 rfl ?_
  refine X_sub [2, 1, 3, 0] rfl ?_
  exact hK29 M a0 s0 a3 (a4 + (1 : Int32))

theorem dd12_stuck_b44 : AllD (ib i12_stuck) [(44, .iload 6, 2), (46, .aload_n 0, 1), (47, .getfield 7, 3), (50, .iconst 2, 1), (51, .iaload, 1), (52, .if_icmp .ge 23, 3), (55, .iload 5, 2), (57, .aload_n 0, 1), (58, .iload 6, 2), (60, .iload_n 3, 1), (61, .iload 4, 2), (63, .invokevirtual 268, 3), (66, .ior, 1), (67, .istore 5, 2), (69, .iinc 6 1, 3), (72, .goto (-28), 3), (75, .iload 5, 2), (77, .ifCond .eq 7, 3), (80, .lload_n 1, 1), (81, .goto 14, 3), (84, .lload_n 1, 1), (85, .aload_n 0, 1), (86, .iload_n 3, 1), (87, .iload 4, 2), (89, .invokevirtual 365, 3), (92, .invokestatic 296, 3)] := allD_of (by decide +kernel)
def f12_stuck_b44_body (K29 : MM → Nat → Int64 → Int32 → Int32 → Option (Int64 × MM)) (rc : MM → Nat → Int64 → Int32 → Int32 → Int32 → Int32 → Option (Int64 × MM)) (M : MM) (a0 : Nat) (a1 : Int64) (a3 : Int32) (a4 : Int32) (a5 : Int32) (a6 : Int32) : Option (Int64 × MM) :=
  aO M a0 12 <|
  aA M (mR M a0 1) 0 (2 : Int32) <|
  if (mI M (mR M a0 1) (2 : Int32).toNatClampNeg) ≤ a6 then
    if a5 = 0 then
      aO M a0 12 <|
      cJ (f12_comesTo M a0 a3 a4) fun r89 M89 =>
      cJ (f12_lesser M89 a1 r89) fun r92 M92 =>
      (f12_stuck_b95 K29) M92 a0 a3 a4 r92
    else
      (f12_stuck_b95 K29) M a0 a3 a4 a1
  else
    aO M a0 12 <|
    cI (f12_isHeadOf M a0 a6 a3 a4) fun r63 M63 =>
    bW (a5 ||| r63) fun v67 =>
    rc M63 a0 a1 a3 a4 v67 (a6 + (1 : Int32))
def f12_stuck_b44 (K29 : MM → Nat → Int64 → Int32 → Int32 → Option (Int64 × MM)) : MM → Nat → Int64 → Int32 → Int32 → Int32 → Int32 → Option (Int64 × MM) := LP7 (f12_stuck_b44_body K29) FU
set_option maxRecDepth 4000 in
theorem T12_stuck_b44 {K29 : MM → Nat → Int64 → Int32 → Int32 → Option (Int64 × MM)} (hK29 : ∀ (M : MM) (a0 : Nat) (a1 : Int64) (a3 : Int32) (a4 : Int32), X Ll i12_stuck 29 [(0, vr a0), (1, vl a1), (3, vi a3), (4, vi a4)] [] M (K29 M a0 a1 a3 a4)) : ∀ (M : MM) (a0 : Nat) (a1 : Int64) (a3 : Int32) (a4 : Int32) (a5 : Int32) (a6 : Int32), X Ll i12_stuck 44 [(0, vr a0), (1, vl a1), (3, vi a3), (4, vi a4), (5, vi a5), (6, vi a6)] [] M (f12_stuck_b44 K29 M a0 a1 a3 a4 a5 a6) := by
  obtain ⟨d44, d46, d47, d50, d51, d52, d55, d57, d58, d60, d61, d63, d66, d67, d69, d72, d75, d77, d80, d81, d84, d85, d86, d87, d89, d92, -⟩ := dd12_stuck_b44
  refine LP7_i (P := fun M a0 a1 a3 a4 a5 a6 o => X Ll i12_stuck 44 [(0, vr a0), (1, vl a1), (3, vi a3), (4, vi a4), (5, vi a5), (6, vi a6)] [] M o) (fun _ _ _ _ _ _ _ => X_none) (fun rc ih M a0 a1 a3 a4 a5 a6 => ?_) FU
  unfold f12_stuck_b44_body
  refine X_iload 5 d44 rfl ?_
  refine X_aloadn 0 d46 rfl ?_
  refine X_getR d47 fg_x12_7 ?_
  refine X_iconst k_i_2 d50 ?_
  refine X_iaload d51 ?_
  refine X_icmp_ge (t := 75) d52 rfl (fun h52 => ?_) (fun h52 => ?_)
  · refine X_iload 4 d75 rfl ?_
    refine X_if_eq (t := 84) d77 rfl (fun h77 => ?_) (fun h77 => ?_)
    · refine X_lloadn 1 d84 rfl ?_
      refine X_aloadn 0 d85 rfl ?_
      refine X_iloadn 2 d86 rfl ?_
      refine X_iload 3 d87 rfl ?_
      refine X_cVl (as := [vi a3, vi a4]) d89 cv_x12_365 ⟨by decide, by decide⟩ rfl (Nat.le_of_ble_eq_true rfl) (T12_comesTo M a0 a3 a4) (fun r89 M89 _ => ?_)
      refine X_cSl (as := [vl a1, vl r89]) d92 cs_x12_296 ⟨by decide, by decide⟩ rfl (Nat.le_of_ble_eq_true rfl) (T12_lesser M89 a1 r89) (fun r92 M92 _ => ?_)
      refine X_sub [0, 2, 3] rfl ?_
      exact (T12_stuck_b95 hK29) M92 a0 a3 a4 r92
    · refine X_lloadn 1 d80 rfl ?_
      refine X_goto (t := 95) d81 rfl ?_
      refine X_sub [0, 2, 3] rfl ?_
      exact (T12_stuck_b95 hK29) M a0 a3 a4 a1
  · refine X_iload 4 d55 rfl ?_
    refine X_aloadn 0 d57 rfl ?_
    refine X_iload 5 d58 rfl ?_
    refine X_iloadn 2 d60 rfl ?_
    refine X_iload 3 d61 rfl ?_
    refine X_cVi (as := [vi a6, vi a3, vi a4]) d63 cv_x12_268 ⟨by decide, by decide⟩ rfl (Nat.le_of_ble_eq_true rfl) (T12_isHeadOf M a0 a6 a3 a4) (fun r63 M63 _ => ?_)
    refine X_ior d66 ?_
    refine X_bWi fun v67 _ => ?_
    refine X_istore (lv' := [(5, vi v67), (0, vr a0), (1, vl a1), (3, vi a3), (4, vi a4), (6, vi a6)]) d67 (by decide) rfl ?_
    refine X_inc (lv' := [(6, vi (a6 + (1 : Int32))), (5, vi v67), (0, vr a0), (1, vl a1), (3, vi a3), (4, vi a4)]) 5 d69 k_i_1 rfl (by decide) rfl ?_
    refine X_goto (t := 44) d72 rfl ?_
    refine X_sub [2, 3, 4, 5, 1, 0] rfl ?_
    exact ih M63 a0 a1 a3 a4 v67 (a6 + (1 : Int32))

theorem dd12_stuck_b29 : AllD (ib i12_stuck) [(29, .iload 4, 2), (31, .aload_n 0, 1), (32, .invokevirtual 128, 3), (35, .if_icmp .ge 67, 3), (38, .iconst 0, 1), (39, .istore 5, 2), (41, .iconst 0, 1), (42, .istore 6, 2), (102, .iinc 3 1, 3), (105, .goto (-94), 3)] := allD_of (by decide +kernel)
def f12_stuck_b29_body (K11 : MM → Nat → Int64 → Int32 → Option (Int64 × MM)) (rc : MM → Nat → Int64 → Int32 → Int32 → Option (Int64 × MM)) (M : MM) (a0 : Nat) (a1 : Int64) (a3 : Int32) (a4 : Int32) : Option (Int64 × MM) :=
  aO M a0 12 <|
  cI (f12_signs M a0) fun r32 M32 =>
  if r32 ≤ a4 then
    K11 M32 a0 a1 (a3 + (1 : Int32))
  else
    (f12_stuck_b44 rc) M32 a0 a1 a3 a4 (0 : Int32) (0 : Int32)
def f12_stuck_b29 (K11 : MM → Nat → Int64 → Int32 → Option (Int64 × MM)) : MM → Nat → Int64 → Int32 → Int32 → Option (Int64 × MM) := LP5 (f12_stuck_b29_body K11) FU
set_option maxRecDepth 4000 in
theorem T12_stuck_b29 {K11 : MM → Nat → Int64 → Int32 → Option (Int64 × MM)} (hK11 : ∀ (M : MM) (a0 : Nat) (a1 : Int64) (a3 : Int32), X Ll i12_stuck 11 [(0, vr a0), (1, vl a1), (3, vi a3)] [] M (K11 M a0 a1 a3)) : ∀ (M : MM) (a0 : Nat) (a1 : Int64) (a3 : Int32) (a4 : Int32), X Ll i12_stuck 29 [(0, vr a0), (1, vl a1), (3, vi a3), (4, vi a4)] [] M (f12_stuck_b29 K11 M a0 a1 a3 a4) := by
  obtain ⟨d29, d31, d32, d35, d38, d39, d41, d42, d102, d105, -⟩ := dd12_stuck_b29
  refine LP5_i (P := fun M a0 a1 a3 a4 o => X Ll i12_stuck 29 [(0, vr a0), (1, vl a1), (3, vi a3), (4, vi a4)] [] M o) (fun _ _ _ _ _ => X_none) (fun rc ih M a0 a1 a3 a4 => ?_) FU
  unfold f12_stuck_b29_body
  refine X_iload 3 d29 rfl ?_
  refine X_aloadn 0 d31 rfl ?_
  refine X_cVi (as := []) d32 cv_x12_128 ⟨by decide, by decide⟩ rfl (Nat.le_of_ble_eq_true rfl) (T12_signs M a0) (fun r32 M32 _ => ?_)
  refine X_icmp_ge (t := 102) d35 rfl (fun h35 => ?_) (fun h35 => ?_)
  · refine X_inc (lv' := [(3, vi (a3 + (1 : Int32))), (0, vr a0), (1, vl a1), (4, vi a4)]) 2 d102 k_i_1 rfl (by decide) rfl ?_
    refine X_goto (t := 11) d105 rfl ?_
    refine X_sub [1, 2, 0] rfl ?_
    exact hK11 M32 a0 a1 (a3 + (1 : Int32))
  · refine X_iconst k_i_0 d38 ?_
    refine X_istore (lv' := [(5, vi (0 : Int32)), (0, vr a0), (1, vl a1), (3, vi a3), (4, vi a4)]) d39 (by decide) rfl ?_
    refine X_iconst k_i_0 d41 ?_
    refine X_istore (lv' := [(6, vi (0 : Int32)), (5, vi (0 : Int32)), (0, vr a0), (1, vl a1), (3, vi a3), (4, vi a4)]) d42 (by decide) rfl ?_
    refine X_sub [2, 3, 4, 5, 1, 0] rfl ?_
    exact (T12_stuck_b44 ih) M32 a0 a1 a3 a4 (0 : Int32) (0 : Int32)

theorem dd12_stuck_b11 : AllD (ib i12_stuck) [(11, .iload_n 3, 1), (12, .aload_n 0, 1), (13, .invokevirtual 120, 3), (16, .if_icmp .ge 92, 3), (19, .aload_n 0, 1), (20, .getfield 236, 3), (23, .ifCond .eq 85, 3), (26, .iconst 0, 1), (27, .istore 4, 2), (108, .lload_n 1, 1), (109, .lreturn, 1)] := allD_of (by decide +kernel)
def f12_stuck_b11_body (rc : MM → Nat → Int64 → Int32 → Option (Int64 × MM)) (M : MM) (a0 : Nat) (a1 : Int64) (a3 : Int32) : Option (Int64 × MM) :=
  aO M a0 12 <|
  cI (f12_states M a0) fun r13 M13 =>
  if r13 ≤ a3 then
    some (a1, M13)
  else
    aO M13 a0 12 <|
    if (mI M13 a0 19) = 0 then
      some (a1, M13)
    else
      (f12_stuck_b29 rc) M13 a0 a1 a3 (0 : Int32)
def f12_stuck_b11 : MM → Nat → Int64 → Int32 → Option (Int64 × MM) := LP4 (f12_stuck_b11_body) FU
set_option maxRecDepth 4000 in
theorem T12_stuck_b11 : ∀ (M : MM) (a0 : Nat) (a1 : Int64) (a3 : Int32), X Ll i12_stuck 11 [(0, vr a0), (1, vl a1), (3, vi a3)] [] M (f12_stuck_b11 M a0 a1 a3) := by
  obtain ⟨d11, d12, d13, d16, d19, d20, d23, d26, d27, d108, d109, -⟩ := dd12_stuck_b11
  refine LP4_i (P := fun M a0 a1 a3 o => X Ll i12_stuck 11 [(0, vr a0), (1, vl a1), (3, vi a3)] [] M o) (fun _ _ _ _ => X_none) (fun rc ih M a0 a1 a3 => ?_) FU
  unfold f12_stuck_b11_body
  refine X_iloadn 2 d11 rfl ?_
  refine X_aloadn 0 d12 rfl ?_
  refine X_cVi (as := []) d13 cv_x12_120 ⟨by decide, by decide⟩ rfl (Nat.le_of_ble_eq_true rfl) (T12_states M a0) (fun r13 M13 _ => ?_)
  refine X_icmp_ge (t := 108) d16 rfl (fun h16 => ?_) (fun h16 => ?_)
  · refine X_lloadn 1 d108 rfl ?_
    exact X_lreturn d109 rfl rfl
  · refine X_aloadn 0 d19 rfl ?_
    refine X_getI d20 fg_x12_236 ?_
    refine X_if_eq (t := 108) d23 rfl (fun h23 => ?_) (fun h23 => ?_)
    · refine X_lloadn 1 d108 rfl ?_
      exact X_lreturn d109 rfl rfl
    · refine X_iconst k_i_0 d26 ?_
      refine X_istore (lv' := [(4, vi (0 : Int32)), (0, vr a0), (1, vl a1), (3, vi a3)]) d27 (by decide) rfl ?_
      refine X_sub [1, 2, 3, 0] rfl ?_
      exact (T12_stuck_b29 ih) M13 a0 a1 a3 (0 : Int32)

theorem dd12_stuck : AllD (ib i12_stuck) [(0, .aload_n 0, 1), (1, .iconst 0, 1), (2, .putfield 113, 3), (5, .ldc2_w 116, 3), (8, .lstore_n 1, 1), (9, .iconst 0, 1), (10, .istore_n 3, 1)] := allD_of (by decide +kernel)
def f12_stuck (M : MM) (a0 : Nat) : Option (Int64 × MM) :=
  aO M a0 12 <|
  bM (sI M a0 0 (0 : Int32)) fun M2 =>
  f12_stuck_b11 M2 a0 (-1 : Int64) (0 : Int32)
set_option maxRecDepth 4000 in
theorem T12_stuck (M : MM) (a0 : Nat) : ∀ q, f12_stuck M a0 = some q → Run i12_stuck [vr a0] M (Ll q) := by
  obtain ⟨d0, d1, d2, d5, d8, d9, d10, -⟩ := dd12_stuck
  refine Run_of_X (by decide) (Nat.le_of_ble_eq_true rfl) ?_
  show X Ll i12_stuck 0 [(0, vr a0)] [] M _
  unfold f12_stuck
  refine X_aloadn 0 d0 rfl ?_
  refine X_iconst k_i_0 d1 ?_
  refine X_putI d2 fp_x12_113 ?_
  refine X_bM fun M2 _ => ?_
  refine X_ldc2 kc_x12_116 d5 ?_
  refine X_lstoren (lv' := [(1, vl (-1 : Int64)), (0, vr a0)]) d8 (by decide) rfl ?_
  refine X_iconst k_i_0 d9 ?_
  refine X_istoren (lv' := [(3, vi (0 : Int32)), (1, vl (-1 : Int64)), (0, vr a0)]) d10 (by decide) rfl ?_
  refine X_sub [2, 1, 0] rfl ?_
  exact T12_stuck_b11 M2 a0 (-1 : Int64) (0 : Int32)

theorem dd12_system_b147 : AllD (ib i12_system) [(147, .iload_n 1, 1), (148, .bipush 24, 2), (150, .if_icmp .ge 24, 3), (153, .aload_n 0, 1), (154, .getfield 19, 3), (157, .iload_n 1, 1), (158, .aload_n 0, 1), (159, .getfield 19, 3), (162, .bipush 24, 2), (164, .iload_n 1, 1), (165, .iadd, 1), (166, .iaload, 1), (167, .iastore, 1), (168, .iinc 1 1, 3), (171, .goto (-24), 3), (174, .aload_n 0, 1), (175, .iconst 0, 1), (176, .putfield 131, 3), (179, .aload_n 0, 1), (180, .iconst 0, 1), (181, .putfield 236, 3), (184, .aload_n 0, 1), (185, .iconst 0, 1), (186, .putfield 240, 3), (189, .aload_n 0, 1), (190, .iconst 0, 1), (191, .putfield 243, 3), (194, .aload_n 0, 1), (195, .iconst 0, 1), (196, .putfield 246, 3), (199, .aload_n 0, 1), (200, .getfield 7, 3), (203, .iconst 2, 1), (204, .iaload, 1), (205, .ireturn, 1)] := allD_of (by decide +kernel)
def f12_system_b147_body (rc : MM → Nat → Int32 → Option (Int32 × MM)) (M : MM) (a0 : Nat) (a1 : Int32) : Option (Int32 × MM) :=
  if (24 : Int32) ≤ a1 then
    aO M a0 12 <|
    bM (sI M a0 5 (0 : Int32)) fun M176 =>
    aO M176 a0 12 <|
    bM (sI M176 a0 19 (0 : Int32)) fun M181 =>
    aO M181 a0 12 <|
    bM (sI M181 a0 23 (0 : Int32)) fun M186 =>
    aO M186 a0 12 <|
    bM (sI M186 a0 31 (0 : Int32)) fun M191 =>
    aO M191 a0 12 <|
    bM (sI M191 a0 49 (0 : Int32)) fun M196 =>
    aO M196 a0 12 <|
    aA M196 (mR M196 a0 1) 0 (2 : Int32) <|
    some (mI M196 (mR M196 a0 1) (2 : Int32).toNatClampNeg, M196)
  else
    aO M a0 12 <|
    aO M a0 12 <|
    aA M (mR M a0 4) 0 ((24 : Int32) + a1) <|
    aA M (mR M a0 4) 0 a1 <|
    bM (sI M (mR M a0 4) a1.toNatClampNeg (mI M (mR M a0 4) ((24 : Int32) + a1).toNatClampNeg)) fun M167 =>
    rc M167 a0 (a1 + (1 : Int32))
def f12_system_b147 : MM → Nat → Int32 → Option (Int32 × MM) := LP3 (f12_system_b147_body) FU
set_option maxRecDepth 4000 in
theorem T12_system_b147 : ∀ (M : MM) (a0 : Nat) (a1 : Int32), X Li i12_system 147 [(0, vr a0), (1, vi a1)] [] M (f12_system_b147 M a0 a1) := by
  obtain ⟨d147, d148, d150, d153, d154, d157, d158, d159, d162, d164, d165, d166, d167, d168, d171, d174, d175, d176, d179, d180, d181, d184, d185, d186, d189, d190, d191, d194, d195, d196, d199, d200, d203, d204, d205, -⟩ := dd12_system_b147
  refine LP3_i (P := fun M a0 a1 o => X Li i12_system 147 [(0, vr a0), (1, vi a1)] [] M o) (fun _ _ _ => X_none) (fun rc ih M a0 a1 => ?_) FU
  unfold f12_system_b147_body
  refine X_iloadn 1 d147 rfl ?_
  refine X_bipush k_b_24 d148 ?_
  refine X_icmp_ge (t := 174) d150 rfl (fun h150 => ?_) (fun h150 => ?_)
  · refine X_aloadn 0 d174 rfl ?_
    refine X_iconst k_i_0 d175 ?_
    refine X_putI d176 fp_x12_131 ?_
    refine X_bM fun M176 _ => ?_
    refine X_aloadn 0 d179 rfl ?_
    refine X_iconst k_i_0 d180 ?_
    refine X_putZc d181 fp_x12_236 (by decide) ?_
    refine X_bM fun M181 _ => ?_
    refine X_aloadn 0 d184 rfl ?_
    refine X_iconst k_i_0 d185 ?_
    refine X_putI d186 fp_x12_240 ?_
    refine X_bM fun M186 _ => ?_
    refine X_aloadn 0 d189 rfl ?_
    refine X_iconst k_i_0 d190 ?_
    refine X_putZc d191 fp_x12_243 (by decide) ?_
    refine X_bM fun M191 _ => ?_
    refine X_aloadn 0 d194 rfl ?_
    refine X_iconst k_i_0 d195 ?_
    refine X_putZc d196 fp_x12_246 (by decide) ?_
    refine X_bM fun M196 _ => ?_
    refine X_aloadn 0 d199 rfl ?_
    refine X_getR d200 fg_x12_7 ?_
    refine X_iconst k_i_2 d203 ?_
    refine X_iaload d204 ?_
    exact X_ireturn d205 rfl rfl
  · refine X_aloadn 0 d153 rfl ?_
    refine X_getR d154 fg_x12_19 ?_
    refine X_iloadn 1 d157 rfl ?_
    refine X_aloadn 0 d158 rfl ?_
    refine X_getR d159 fg_x12_19 ?_
    refine X_bipush k_b_24 d162 ?_
    refine X_iloadn 1 d164 rfl ?_
    refine X_iadd d165 ?_
    refine X_iaload d166 ?_
    refine X_iastore d167 ?_
    refine X_bM fun M167 _ => ?_
    refine X_inc (lv' := [(1, vi (a1 + (1 : Int32))), (0, vr a0)]) 1 d168 k_i_1 rfl (by decide) rfl ?_
    refine X_goto (t := 147) d171 rfl ?_
    refine X_sub [1, 0] rfl ?_
    exact ih M167 a0 (a1 + (1 : Int32))

theorem dd12_system_b118 : AllD (ib i12_system) [(118, .iload_n 1, 1), (119, .bipush 98, 2), (121, .if_icmp .ge 24, 3), (124, .aload_n 0, 1), (125, .getfield 16, 3), (128, .iload_n 1, 1), (129, .aload_n 0, 1), (130, .getfield 16, 3), (133, .bipush 98, 2), (135, .iload_n 1, 1), (136, .iadd, 1), (137, .iaload, 1), (138, .iastore, 1), (139, .iinc 1 1, 3), (142, .goto (-24), 3), (145, .iconst 0, 1), (146, .istore_n 1, 1)] := allD_of (by decide +kernel)
def f12_system_b118_body (rc : MM → Nat → Int32 → Option (Int32 × MM)) (M : MM) (a0 : Nat) (a1 : Int32) : Option (Int32 × MM) :=
  if (98 : Int32) ≤ a1 then
    f12_system_b147 M a0 (0 : Int32)
  else
    aO M a0 12 <|
    aO M a0 12 <|
    aA M (mR M a0 3) 0 ((98 : Int32) + a1) <|
    aA M (mR M a0 3) 0 a1 <|
    bM (sI M (mR M a0 3) a1.toNatClampNeg (mI M (mR M a0 3) ((98 : Int32) + a1).toNatClampNeg)) fun M138 =>
    rc M138 a0 (a1 + (1 : Int32))
def f12_system_b118 : MM → Nat → Int32 → Option (Int32 × MM) := LP3 (f12_system_b118_body) FU
set_option maxRecDepth 4000 in
theorem T12_system_b118 : ∀ (M : MM) (a0 : Nat) (a1 : Int32), X Li i12_system 118 [(0, vr a0), (1, vi a1)] [] M (f12_system_b118 M a0 a1) := by
  obtain ⟨d118, d119, d121, d124, d125, d128, d129, d130, d133, d135, d136, d137, d138, d139, d142, d145, d146, -⟩ := dd12_system_b118
  refine LP3_i (P := fun M a0 a1 o => X Li i12_system 118 [(0, vr a0), (1, vi a1)] [] M o) (fun _ _ _ => X_none) (fun rc ih M a0 a1 => ?_) FU
  unfold f12_system_b118_body
  refine X_iloadn 1 d118 rfl ?_
  refine X_bipush k_b_98 d119 ?_
  refine X_icmp_ge (t := 145) d121 rfl (fun h121 => ?_) (fun h121 => ?_)
  · refine X_iconst k_i_0 d145 ?_
    refine X_istoren (lv' := [(1, vi (0 : Int32)), (0, vr a0)]) d146 (by decide) rfl ?_
    refine X_sub [1, 0] rfl ?_
    exact T12_system_b147 M a0 (0 : Int32)
  · refine X_aloadn 0 d124 rfl ?_
    refine X_getR d125 fg_x12_16 ?_
    refine X_iloadn 1 d128 rfl ?_
    refine X_aloadn 0 d129 rfl ?_
    refine X_getR d130 fg_x12_16 ?_
    refine X_bipush k_b_98 d133 ?_
    refine X_iloadn 1 d135 rfl ?_
    refine X_iadd d136 ?_
    refine X_iaload d137 ?_
    refine X_iastore d138 ?_
    refine X_bM fun M138 _ => ?_
    refine X_inc (lv' := [(1, vi (a1 + (1 : Int32))), (0, vr a0)]) 1 d139 k_i_1 rfl (by decide) rfl ?_
    refine X_goto (t := 118) d142 rfl ?_
    refine X_sub [1, 0] rfl ?_
    exact ih M138 a0 (a1 + (1 : Int32))

theorem dd12_system_b89 : AllD (ib i12_system) [(89, .iload_n 1, 1), (90, .bipush 12, 2), (92, .if_icmp .ge 24, 3), (95, .aload_n 0, 1), (96, .getfield 13, 3), (99, .iload_n 1, 1), (100, .aload_n 0, 1), (101, .getfield 13, 3), (104, .bipush 12, 2), (106, .iload_n 1, 1), (107, .iadd, 1), (108, .iaload, 1), (109, .iastore, 1), (110, .iinc 1 1, 3), (113, .goto (-24), 3), (116, .iconst 0, 1), (117, .istore_n 1, 1)] := allD_of (by decide +kernel)
def f12_system_b89_body (rc : MM → Nat → Int32 → Option (Int32 × MM)) (M : MM) (a0 : Nat) (a1 : Int32) : Option (Int32 × MM) :=
  if (12 : Int32) ≤ a1 then
    f12_system_b118 M a0 (0 : Int32)
  else
    aO M a0 12 <|
    aO M a0 12 <|
    aA M (mR M a0 2) 0 ((12 : Int32) + a1) <|
    aA M (mR M a0 2) 0 a1 <|
    bM (sI M (mR M a0 2) a1.toNatClampNeg (mI M (mR M a0 2) ((12 : Int32) + a1).toNatClampNeg)) fun M109 =>
    rc M109 a0 (a1 + (1 : Int32))
def f12_system_b89 : MM → Nat → Int32 → Option (Int32 × MM) := LP3 (f12_system_b89_body) FU
set_option maxRecDepth 4000 in
theorem T12_system_b89 : ∀ (M : MM) (a0 : Nat) (a1 : Int32), X Li i12_system 89 [(0, vr a0), (1, vi a1)] [] M (f12_system_b89 M a0 a1) := by
  obtain ⟨d89, d90, d92, d95, d96, d99, d100, d101, d104, d106, d107, d108, d109, d110, d113, d116, d117, -⟩ := dd12_system_b89
  refine LP3_i (P := fun M a0 a1 o => X Li i12_system 89 [(0, vr a0), (1, vi a1)] [] M o) (fun _ _ _ => X_none) (fun rc ih M a0 a1 => ?_) FU
  unfold f12_system_b89_body
  refine X_iloadn 1 d89 rfl ?_
  refine X_bipush k_b_12 d90 ?_
  refine X_icmp_ge (t := 116) d92 rfl (fun h92 => ?_) (fun h92 => ?_)
  · refine X_iconst k_i_0 d116 ?_
    refine X_istoren (lv' := [(1, vi (0 : Int32)), (0, vr a0)]) d117 (by decide) rfl ?_
    refine X_sub [1, 0] rfl ?_
    exact T12_system_b118 M a0 (0 : Int32)
  · refine X_aloadn 0 d95 rfl ?_
    refine X_getR d96 fg_x12_13 ?_
    refine X_iloadn 1 d99 rfl ?_
    refine X_aloadn 0 d100 rfl ?_
    refine X_getR d101 fg_x12_13 ?_
    refine X_bipush k_b_12 d104 ?_
    refine X_iloadn 1 d106 rfl ?_
    refine X_iadd d107 ?_
    refine X_iaload d108 ?_
    refine X_iastore d109 ?_
    refine X_bM fun M109 _ => ?_
    refine X_inc (lv' := [(1, vi (a1 + (1 : Int32))), (0, vr a0)]) 1 d110 k_i_1 rfl (by decide) rfl ?_
    refine X_goto (t := 89) d113 rfl ?_
    refine X_sub [1, 0] rfl ?_
    exact ih M109 a0 (a1 + (1 : Int32))

theorem dd12_system_b62 : AllD (ib i12_system) [(62, .iload_n 1, 1), (63, .iconst 4, 1), (64, .if_icmp .ge 23, 3), (67, .aload_n 0, 1), (68, .getfield 7, 3), (71, .iload_n 1, 1), (72, .aload_n 0, 1), (73, .getfield 7, 3), (76, .iconst 4, 1), (77, .iload_n 1, 1), (78, .iadd, 1), (79, .iaload, 1), (80, .iastore, 1), (81, .iinc 1 1, 3), (84, .goto (-22), 3), (87, .iconst 0, 1), (88, .istore_n 1, 1)] := allD_of (by decide +kernel)
def f12_system_b62_body (rc : MM → Nat → Int32 → Option (Int32 × MM)) (M : MM) (a0 : Nat) (a1 : Int32) : Option (Int32 × MM) :=
  if (4 : Int32) ≤ a1 then
    f12_system_b89 M a0 (0 : Int32)
  else
    aO M a0 12 <|
    aO M a0 12 <|
    aA M (mR M a0 1) 0 ((4 : Int32) + a1) <|
    aA M (mR M a0 1) 0 a1 <|
    bM (sI M (mR M a0 1) a1.toNatClampNeg (mI M (mR M a0 1) ((4 : Int32) + a1).toNatClampNeg)) fun M80 =>
    rc M80 a0 (a1 + (1 : Int32))
def f12_system_b62 : MM → Nat → Int32 → Option (Int32 × MM) := LP3 (f12_system_b62_body) FU
set_option maxRecDepth 4000 in
theorem T12_system_b62 : ∀ (M : MM) (a0 : Nat) (a1 : Int32), X Li i12_system 62 [(0, vr a0), (1, vi a1)] [] M (f12_system_b62 M a0 a1) := by
  obtain ⟨d62, d63, d64, d67, d68, d71, d72, d73, d76, d77, d78, d79, d80, d81, d84, d87, d88, -⟩ := dd12_system_b62
  refine LP3_i (P := fun M a0 a1 o => X Li i12_system 62 [(0, vr a0), (1, vi a1)] [] M o) (fun _ _ _ => X_none) (fun rc ih M a0 a1 => ?_) FU
  unfold f12_system_b62_body
  refine X_iloadn 1 d62 rfl ?_
  refine X_iconst k_i_4 d63 ?_
  refine X_icmp_ge (t := 87) d64 rfl (fun h64 => ?_) (fun h64 => ?_)
  · refine X_iconst k_i_0 d87 ?_
    refine X_istoren (lv' := [(1, vi (0 : Int32)), (0, vr a0)]) d88 (by decide) rfl ?_
    refine X_sub [1, 0] rfl ?_
    exact T12_system_b89 M a0 (0 : Int32)
  · refine X_aloadn 0 d67 rfl ?_
    refine X_getR d68 fg_x12_7 ?_
    refine X_iloadn 1 d71 rfl ?_
    refine X_aloadn 0 d72 rfl ?_
    refine X_getR d73 fg_x12_7 ?_
    refine X_iconst k_i_4 d76 ?_
    refine X_iloadn 1 d77 rfl ?_
    refine X_iadd d78 ?_
    refine X_iaload d79 ?_
    refine X_iastore d80 ?_
    refine X_bM fun M80 _ => ?_
    refine X_inc (lv' := [(1, vi (a1 + (1 : Int32))), (0, vr a0)]) 1 d81 k_i_1 rfl (by decide) rfl ?_
    refine X_goto (t := 62) d84 rfl ?_
    refine X_sub [1, 0] rfl ?_
    exact ih M80 a0 (a1 + (1 : Int32))

theorem dd12_system_b51 : AllD (ib i12_system) [(51, .aload_n 0, 1), (52, .invokevirtual 233, 3), (55, .ifCond .ne 5, 3), (58, .iconst (-1), 1), (59, .ireturn, 1), (60, .iconst 0, 1), (61, .istore_n 1, 1)] := allD_of (by decide +kernel)
def f12_system_b51 (M : MM) (a0 : Nat) : Option (Int32 × MM) :=
  aO M a0 12 <|
  cI (f12_ends M a0) fun r52 M52 =>
  if r52 = 0 then
    some ((-1 : Int32), M52)
  else
    f12_system_b62 M52 a0 (0 : Int32)
set_option maxRecDepth 4000 in
theorem T12_system_b51 : ∀ (M : MM) (a0 : Nat), X Li i12_system 51 [(0, vr a0)] [] M (f12_system_b51 M a0) := by
  obtain ⟨d51, d52, d55, d58, d59, d60, d61, -⟩ := dd12_system_b51
  intro M a0
  unfold f12_system_b51
  refine X_aloadn 0 d51 rfl ?_
  refine X_cVi (as := []) d52 cv_x12_233 ⟨by decide, by decide⟩ rfl (Nat.le_of_ble_eq_true rfl) (T12_ends M a0) (fun r52 M52 _ => ?_)
  refine X_if_ne (t := 60) d55 rfl (fun h55 => ?_) (fun h55 => ?_)
  · refine X_iconst k_i_m1 d58 ?_
    exact X_ireturn d59 rfl rfl
  · refine X_iconst k_i_0 d60 ?_
    refine X_istoren (lv' := [(1, vi (0 : Int32)), (0, vr a0)]) d61 (by decide) rfl ?_
    refine X_sub [1, 0] rfl ?_
    exact T12_system_b62 M52 a0 (0 : Int32)

theorem dd12_system_b30 : AllD (ib i12_system) [(30, .aload_n 0, 1), (31, .invokevirtual 181, 3), (34, .ifCond .eq 17, 3), (37, .aload_n 0, 1), (38, .getfield 165, 3), (41, .ifCond .eq 10, 3), (44, .aload_n 0, 1), (45, .invokevirtual 230, 3), (48, .goto (-18), 3)] := allD_of (by decide +kernel)
def f12_system_b30_body (rc : MM → Nat → Option (Int32 × MM)) (M : MM) (a0 : Nat) : Option (Int32 × MM) :=
  aO M a0 12 <|
  cI (f12_isGood M a0) fun r31 M31 =>
  if r31 = 0 then
    f12_system_b51 M31 a0
  else
    aO M31 a0 12 <|
    if (mI M31 a0 11) = 0 then
      f12_system_b51 M31 a0
    else
      aO M31 a0 12 <|
      cV (f12_readLine M31 a0) fun M45 =>
      rc M45 a0
def f12_system_b30 : MM → Nat → Option (Int32 × MM) := LP2 (f12_system_b30_body) FU
set_option maxRecDepth 4000 in
theorem T12_system_b30 : ∀ (M : MM) (a0 : Nat), X Li i12_system 30 [(0, vr a0)] [] M (f12_system_b30 M a0) := by
  obtain ⟨d30, d31, d34, d37, d38, d41, d44, d45, d48, -⟩ := dd12_system_b30
  refine LP2_i (P := fun M a0 o => X Li i12_system 30 [(0, vr a0)] [] M o) (fun _ _ => X_none) (fun rc ih M a0 => ?_) FU
  unfold f12_system_b30_body
  refine X_aloadn 0 d30 rfl ?_
  refine X_cVi (as := []) d31 cv_x12_181 ⟨by decide, by decide⟩ rfl (Nat.le_of_ble_eq_true rfl) (T12_isGood M a0) (fun r31 M31 _ => ?_)
  refine X_if_eq (t := 51) d34 rfl (fun h34 => ?_) (fun h34 => ?_)
  · exact T12_system_b51 M31 a0
  · refine X_aloadn 0 d37 rfl ?_
    refine X_getI d38 fg_x12_165 ?_
    refine X_if_eq (t := 51) d41 rfl (fun h41 => ?_) (fun h41 => ?_)
    · exact T12_system_b51 M31 a0
    · refine X_aloadn 0 d44 rfl ?_
      refine X_cVv (as := []) d45 cv_x12_230 ⟨by decide, by decide⟩ rfl (Nat.le_of_ble_eq_true rfl) (T12_readLine M31 a0) (fun M45 _ => ?_)
      refine X_goto (t := 30) d48 rfl ?_
      exact ih M45 a0

theorem dd12_system_b7 : AllD (ib i12_system) [(7, .iload_n 1, 1), (8, .bipush 8, 2), (10, .if_icmp .ge 16, 3), (13, .aload_n 0, 1), (14, .getfield 7, 3), (17, .iload_n 1, 1), (18, .iconst 0, 1), (19, .iastore, 1), (20, .iinc 1 1, 3), (23, .goto (-16), 3), (26, .aload_n 0, 1), (27, .invokevirtual 227, 3)] := allD_of (by decide +kernel)
def f12_system_b7_body (rc : MM → Nat → Int32 → Option (Int32 × MM)) (M : MM) (a0 : Nat) (a1 : Int32) : Option (Int32 × MM) :=
  if (8 : Int32) ≤ a1 then
    aO M a0 12 <|
    cV (f12_begins M a0) fun M27 =>
    f12_system_b30 M27 a0
  else
    aO M a0 12 <|
    aA M (mR M a0 1) 0 a1 <|
    bM (sI M (mR M a0 1) a1.toNatClampNeg (0 : Int32)) fun M19 =>
    rc M19 a0 (a1 + (1 : Int32))
def f12_system_b7 : MM → Nat → Int32 → Option (Int32 × MM) := LP3 (f12_system_b7_body) FU
set_option maxRecDepth 4000 in
theorem T12_system_b7 : ∀ (M : MM) (a0 : Nat) (a1 : Int32), X Li i12_system 7 [(0, vr a0), (1, vi a1)] [] M (f12_system_b7 M a0 a1) := by
  obtain ⟨d7, d8, d10, d13, d14, d17, d18, d19, d20, d23, d26, d27, -⟩ := dd12_system_b7
  refine LP3_i (P := fun M a0 a1 o => X Li i12_system 7 [(0, vr a0), (1, vi a1)] [] M o) (fun _ _ _ => X_none) (fun rc ih M a0 a1 => ?_) FU
  unfold f12_system_b7_body
  refine X_iloadn 1 d7 rfl ?_
  refine X_bipush k_b_8 d8 ?_
  refine X_icmp_ge (t := 26) d10 rfl (fun h10 => ?_) (fun h10 => ?_)
  · refine X_aloadn 0 d26 rfl ?_
    refine X_cVv (as := []) d27 cv_x12_227 ⟨by decide, by decide⟩ rfl (Nat.le_of_ble_eq_true rfl) (T12_begins M a0) (fun M27 _ => ?_)
    refine X_sub [0] rfl ?_
    exact T12_system_b30 M27 a0
  · refine X_aloadn 0 d13 rfl ?_
    refine X_getR d14 fg_x12_7 ?_
    refine X_iloadn 1 d17 rfl ?_
    refine X_iconst k_i_0 d18 ?_
    refine X_iastore d19 ?_
    refine X_bM fun M19 _ => ?_
    refine X_inc (lv' := [(1, vi (a1 + (1 : Int32))), (0, vr a0)]) 1 d20 k_i_1 rfl (by decide) rfl ?_
    refine X_goto (t := 7) d23 rfl ?_
    refine X_sub [1, 0] rfl ?_
    exact ih M19 a0 (a1 + (1 : Int32))

theorem dd12_system : AllD (ib i12_system) [(0, .aload_n 0, 1), (1, .iconst 0, 1), (2, .putfield 113, 3), (5, .iconst 4, 1), (6, .istore_n 1, 1)] := allD_of (by decide +kernel)
def f12_system (M : MM) (a0 : Nat) : Option (Int32 × MM) :=
  aO M a0 12 <|
  bM (sI M a0 0 (0 : Int32)) fun M2 =>
  f12_system_b7 M2 a0 (4 : Int32)
set_option maxRecDepth 4000 in
theorem T12_system (M : MM) (a0 : Nat) : ∀ q, f12_system M a0 = some q → Run i12_system [vr a0] M (Li q) := by
  obtain ⟨d0, d1, d2, d5, d6, -⟩ := dd12_system
  refine Run_of_X (by decide) (Nat.le_of_ble_eq_true rfl) ?_
  show X Li i12_system 0 [(0, vr a0)] [] M _
  unfold f12_system
  refine X_aloadn 0 d0 rfl ?_
  refine X_iconst k_i_0 d1 ?_
  refine X_putI d2 fp_x12_113 ?_
  refine X_bM fun M2 _ => ?_
  refine X_iconst k_i_4 d5 ?_
  refine X_istoren (lv' := [(1, vi (4 : Int32)), (0, vr a0)]) d6 (by decide) rfl ?_
  refine X_sub [1, 0] rfl ?_
  exact T12_system_b7 M2 a0 (4 : Int32)

theorem dd12_thrown : AllD (ib i12_thrown) [(0, .aload_n 0, 1), (1, .getfield 113, 3), (4, .ireturn, 1)] := allD_of (by decide +kernel)
def f12_thrown (M : MM) (a0 : Nat) : Option (Int32 × MM) :=
  aO M a0 12 <|
  some (mI M a0 0, M)
set_option maxRecDepth 4000 in
theorem T12_thrown (M : MM) (a0 : Nat) : ∀ q, f12_thrown M a0 = some q → Run i12_thrown [vr a0] M (Li q) := by
  obtain ⟨d0, d1, d4, -⟩ := dd12_thrown
  refine Run_of_X (by decide) (Nat.le_of_ble_eq_true rfl) ?_
  show X Li i12_thrown 0 [(0, vr a0)] [] M _
  unfold f12_thrown
  refine X_aloadn 0 d0 rfl ?_
  refine X_getI d1 fg_x12_113 ?_
  exact X_ireturn d4 rfl rfl

