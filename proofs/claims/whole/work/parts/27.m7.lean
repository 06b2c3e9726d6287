/-! printed by program: methods as functions, and that the bytecode does what they tell -/
theorem dd12_layBehind_b174 : AllD (ib i12_layBehind) [(174, .iinc 1 1, 3), (177, .goto (-149), 3)] := allD_of (by decide +kernel)
def f12_layBehind_b174 (K28 : MM → Nat → Int32 → Option MM) (M : MM) (a0 : Nat) (a1 : Int32) : Option MM :=
  K28 M a0 (a1 + (1 : Int32))
set_option maxRecDepth 4000 in
theorem T12_layBehind_b174 {K28 : MM → Nat → Int32 → Option MM} (hK28 : ∀ (M : MM) (a0 : Nat) (a1 : Int32), X Lv i12_layBehind 28 [(0, vr a0), (1, vi a1)] [] M (K28 M a0 a1)) : ∀ (M : MM) (a0 : Nat) (a1 : Int32), X Lv i12_layBehind 174 [(0, vr a0), (1, vi a1)] [] M (f12_layBehind_b174 K28 M a0 a1) := by
  obtain ⟨d174, d177, -⟩ := dd12_layBehind_b174
  intro M a0 a1
  unfold f12_layBehind_b174
  refine X_inc (lv' := [(1, vi (a1 + (1 : Int32))), (0, vr a0)]) 1 d174 k_i_1 rfl (by decide) rfl ?_
  refine X_goto (t := 28) d177 rfl ?_
  refine X_sub [1, 0] rfl ?_
  exact hK28 M a0 (a1 + (1 : Int32))

theorem dd12_layBehind_b111 : AllD (ib i12_layBehind) [(111, .iload 4, 2), (113, .aload_n 0, 1), (114, .invokevirtual 120, 3), (117, .if_icmp .ge 57, 3), (120, .iload_n 2, 1), (121, .iconst 2, 1), (122, .if_icmp .ne 52, 3), (125, .aload_n 0, 1), (126, .getfield 72, 3), (129, .bipush 30, 2), (131, .iload_n 3, 1), (132, .imul, 1), (133, .aload_n 0, 1), (134, .iload 4, 2), (136, .aload_n 0, 1), (137, .iload_n 1, 1), (138, .iconst 5, 1), (139, .invokevirtual 138, 3), (142, .invokevirtual 368, 3), (145, .iadd, 1), (146, .dup2, 1), (147, .baload, 1), (148, .aload_n 0, 1), (149, .aload_n 0, 1), (150, .iload_n 1, 1), (151, .iconst 2, 1), (152, .invokevirtual 138, 3), (155, .aload_n 0, 1), (156, .iload_n 1, 1), (157, .iconst 4, 1), (158, .invokevirtual 138, 3), (161, .iload 4, 2), (163, .invokevirtual 374, 3), (166, .ior, 1), (167, .bastore, 1), (168, .iinc 4 1, 3), (171, .goto (-60), 3)] := allD_of (by decide +kernel)
def f12_layBehind_b111_body (K28 : MM → Nat → Int32 → Option MM) (rc : MM → Nat → Int32 → Int32 → Int32 → Int32 → Option MM) (M : MM) (a0 : Nat) (a1 : Int32) (a2 : Int32) (a3 : Int32) (a4 : Int32) : Option MM :=
  aO M a0 12 <|
  cI (f12_states M a0) fun r114 M114 =>
  if r114 ≤ a4 then
    (f12_layBehind_b174 K28) M114 a0 a1
  else
    if a2 = (2 : Int32) then
      aO M114 a0 12 <|
      aO M114 a0 12 <|
      cI (f12_ruleOf M114 a0 a1 (5 : Int32)) fun r139 M139 =>
      aO M139 a0 12 <|
      cI (f12_head M139 a0 a4 r139) fun r142 M142 =>
      aA M142 (mR M114 a0 38) 2 (((30 : Int32) * a3) + r142) <|
      aO M142 a0 12 <|
      cI (f12_ruleOf M142 a0 a1 (2 : Int32)) fun r152 M152 =>
      aO M152 a0 12 <|
      cI (f12_ruleOf M152 a0 a1 (4 : Int32)) fun r158 M158 =>
      aO M158 a0 12 <|
      cI (f12_canPop M158 a0 r152 r158 a4) fun r163 M163 =>
      aA M163 (mR M114 a0 38) 2 (((30 : Int32) * a3) + r142) <|
      gd (((mI M142 (mR M114 a0 38) (((30 : Int32) * a3) + r142).toNatClampNeg) ||| r163) = 0 ∨ ((mI M142 (mR M114 a0 38) (((30 : Int32) * a3) + r142).toNatClampNeg) ||| r163) = 1) <|
      bM (sI M163 (mR M114 a0 38) (((30 : Int32) * a3) + r142).toNatClampNeg ((mI M142 (mR M114 a0 38) (((30 : Int32) * a3) + r142).toNatClampNeg) ||| r163)) fun M167 =>
      rc M167 a0 a1 a2 a3 (a4 + (1 : Int32))
    else
      (f12_layBehind_b174 K28) M114 a0 a1
def f12_layBehind_b111 (K28 : MM → Nat → Int32 → Option MM) : MM → Nat → Int32 → Int32 → Int32 → Int32 → Option MM := LP6 (f12_layBehind_b111_body K28) FU
set_option maxRecDepth 4000 in
theorem T12_layBehind_b111 {K28 : MM → Nat → Int32 → Option MM} (hK28 : ∀ (M : MM) (a0 : Nat) (a1 : Int32), X Lv i12_layBehind 28 [(0, vr a0), (1, vi a1)] [] M (K28 M a0 a1)) : ∀ (M : MM) (a0 : Nat) (a1 : Int32) (a2 : Int32) (a3 : Int32) (a4 : Int32), X Lv i12_layBehind 111 [(0, vr a0), (1, vi a1), (2, vi a2), (3, vi a3), (4, vi a4)] [] M (f12_layBehind_b111 K28 M a0 a1 a2 a3 a4) := by
  obtain ⟨d111, d113, d114, d117, d120, d121, d122, d125, d126, d129, d131, d132, d133, d134, d136, d137, d138, d139, d142, d145, d146, d147, d148, d149, d150, d151, d152, d155, d156, d157, d158, d161, d163, d166, d167, d168, d171, -⟩ := dd12_layBehind_b111
  refine LP6_i (P := fun M a0 a1 a2 a3 a4 o => X Lv i12_layBehind 111 [(0, vr a0), (1, vi a1), (2, vi a2), (3, vi a3), (4, vi a4)] [] M o) (fun _ _ _ _ _ _ => X_none) (fun rc ih M a0 a1 a2 a3 a4 => ?_) FU
  unfold f12_layBehind_b111_body
  refine X_iload 4 d111 rfl ?_
  refine X_aloadn 0 d113 rfl ?_
  refine X_cVi (as := []) d114 cv_x12_120 ⟨by decide, by decide⟩ rfl (Nat.le_of_ble_eq_true rfl) (T12_states M a0) (fun r114 M114 _ => ?_)
  refine X_icmp_ge (t := 174) d117 rfl (fun h117 => ?_) (fun h117 => ?_)
  · refine X_sub [0, 1] rfl ?_
    exact (T12_layBehind_b174 hK28) M114 a0 a1
  · refine X_iloadn 2 d120 rfl ?_
    refine X_iconst k_i_2 d121 ?_
    refine X_icmp_ne (t := 174) d122 rfl (fun h122 => ?_) (fun h122 => ?_)
    · refine X_aloadn 0 d125 rfl ?_
      refine X_getR d126 fg_x12_72 ?_
      refine X_bipush k_b_30 d129 ?_
      refine X_iloadn 3 d131 rfl ?_
      refine X_imul d132 ?_
      refine X_aloadn 0 d133 rfl ?_
      refine X_iload 4 d134 rfl ?_
      refine X_aloadn 0 d136 rfl ?_
      refine X_iloadn 1 d137 rfl ?_
      refine X_iconst k_i_5 d138 ?_
      refine X_cVi (as := [vi a1, vi (5 : Int32)]) d139 cv_x12_138 ⟨by decide, by decide⟩ rfl (Nat.le_of_ble_eq_true rfl) (T12_ruleOf M114 a0 a1 (5 : Int32)) (fun r139 M139 _ => ?_)
      refine X_cVi (as := [vi a4, vi r139]) d142 cv_x12_368 ⟨by decide, by decide⟩ rfl (Nat.le_of_ble_eq_true rfl) (T12_head M139 a0 a4 r139) (fun r142 M142 _ => ?_)
      refine X_iadd d145 ?_
      refine X_dup2 d146 ?_
      refine X_baload d147 ?_
      refine X_aloadn 0 d148 rfl ?_
      refine X_aloadn 0 d149 rfl ?_
      refine X_iloadn 1 d150 rfl ?_
      refine X_iconst k_i_2 d151 ?_
      refine X_cVi (as := [vi a1, vi (2 : Int32)]) d152 cv_x12_138 ⟨by decide, by decide⟩ rfl (Nat.le_of_ble_eq_true rfl) (T12_ruleOf M142 a0 a1 (2 : Int32)) (fun r152 M152 _ => ?_)
      refine X_aloadn 0 d155 rfl ?_
      refine X_iloadn 1 d156 rfl ?_
      refine X_iconst k_i_4 d157 ?_
      refine X_cVi (as := [vi a1, vi (4 : Int32)]) d158 cv_x12_138 ⟨by decide, by decide⟩ rfl (Nat.le_of_ble_eq_true rfl) (T12_ruleOf M152 a0 a1 (4 : Int32)) (fun r158 M158 _ => ?_)
      refine X_iload 4 d161 rfl ?_
      refine X_cVi (as := [vi r152, vi r158, vi a4]) d163 cv_x12_374 ⟨by decide, by decide⟩ rfl (Nat.le_of_ble_eq_true rfl) (T12_canPop M158 a0 r152 r158 a4) (fun r163 M163 _ => ?_)
      refine X_ior d166 ?_
      refine X_bastore d167 ?_
      refine X_bM fun M167 _ => ?_
      refine X_inc (lv' := [(4, vi (a4 + (1 : Int32))), (0, vr a0), (1, vi a1), (2, vi a2), (3, vi a3)]) 4 d168 k_i_1 rfl (by decide) rfl ?_
      refine X_goto (t := 111) d171 rfl ?_
      refine X_sub [1, 2, 3, 4, 0] rfl ?_
      exact ih M167 a0 a1 a2 a3 (a4 + (1 : Int32))
    · refine X_sub [0, 1] rfl ?_
      exact (T12_layBehind_b174 hK28) M114 a0 a1

theorem dd12_layBehind_b108 : AllD (ib i12_layBehind) [(108, .iconst 0, 1), (109, .istore 4, 2)] := allD_of (by decide +kernel)
def f12_layBehind_b108 (K28 : MM → Nat → Int32 → Option MM) (M : MM) (a0 : Nat) (a1 : Int32) (a2 : Int32) (a3 : Int32) : Option MM :=
  (f12_layBehind_b111 K28) M a0 a1 a2 a3 (0 : Int32)
set_option maxRecDepth 4000 in
theorem T12_layBehind_b108 {K28 : MM → Nat → Int32 → Option MM} (hK28 : ∀ (M : MM) (a0 : Nat) (a1 : Int32), X Lv i12_layBehind 28 [(0, vr a0), (1, vi a1)] [] M (K28 M a0 a1)) : ∀ (M : MM) (a0 : Nat) (a1 : Int32) (a2 : Int32) (a3 : Int32), X Lv i12_layBehind 108 [(0, vr a0), (1, vi a1), (2, vi a2), (3, vi a3)] [] M (f12_layBehind_b108 K28 M a0 a1 a2 a3) := by
  obtain ⟨d108, d109, -⟩ := dd12_layBehind_b108
  intro M a0 a1 a2 a3
  unfold f12_layBehind_b108
  refine X_iconst k_i_0 d108 ?_
  refine X_istore (lv' := [(4, vi (0 : Int32)), (0, vr a0), (1, vi a1), (2, vi a2), (3, vi a3)]) d109 (by decide) rfl ?_
  refine X_sub [1, 2, 3, 4, 0] rfl ?_
  exact (T12_layBehind_b111 hK28) M a0 a1 a2 a3 (0 : Int32)

theorem dd12_layBehind_b59 : AllD (ib i12_layBehind) [(59, .istore_n 2, 1), (60, .aload_n 0, 1), (61, .aload_n 0, 1), (62, .iload_n 1, 1), (63, .iconst 0, 1), (64, .invokevirtual 138, 3), (67, .aload_n 0, 1), (68, .iload_n 1, 1), (69, .iconst 1, 1), (70, .invokevirtual 138, 3), (73, .invokevirtual 368, 3), (76, .istore_n 3, 1), (77, .iload_n 2, 1), (78, .ifCond .le 30, 3), (81, .aload_n 0, 1), (82, .getfield 72, 3), (85, .bipush 30, 2), (87, .iload_n 3, 1), (88, .imul, 1), (89, .aload_n 0, 1), (90, .aload_n 0, 1), (91, .iload_n 1, 1), (92, .iconst 2, 1), (93, .invokevirtual 138, 3), (96, .aload_n 0, 1), (97, .iload_n 1, 1), (98, .iconst 4, 1), (99, .invokevirtual 138, 3), (102, .invokevirtual 368, 3), (105, .iadd, 1), (106, .iconst 1, 1), (107, .bastore, 1)] := allD_of (by decide +kernel)
def f12_layBehind_b59 (K28 : MM → Nat → Int32 → Option MM) (M : MM) (a0 : Nat) (a1 : Int32) (s0 : Int32) : Option MM :=
  aO M a0 12 <|
  cI (f12_ruleOf M a0 a1 (0 : Int32)) fun r64 M64 =>
  aO M64 a0 12 <|
  cI (f12_ruleOf M64 a0 a1 (1 : Int32)) fun r70 M70 =>
  aO M70 a0 12 <|
  cI (f12_head M70 a0 r64 r70) fun r73 M73 =>
  if s0 ≤ 0 then
    (f12_layBehind_b108 K28) M73 a0 a1 s0 r73
  else
    aO M73 a0 12 <|
    aO M73 a0 12 <|
    cI (f12_ruleOf M73 a0 a1 (2 : Int32)) fun r93 M93 =>
    aO M93 a0 12 <|
    cI (f12_ruleOf M93 a0 a1 (4 : Int32)) fun r99 M99 =>
    aO M99 a0 12 <|
    cI (f12_head M99 a0 r93 r99) fun r102 M102 =>
    aA M102 (mR M73 a0 38) 2 (((30 : Int32) * r73) + r102) <|
    gd ((1 : Int32) = 0 ∨ (1 : Int32) = 1) <|
    bM (sI M102 (mR M73 a0 38) (((30 : Int32) * r73) + r102).toNatClampNeg (1 : Int32)) fun M107 =>
    (f12_layBehind_b108 K28) M107 a0 a1 s0 r73
set_option maxRecDepth 4000 in
theorem T12_layBehind_b59 {K28 : MM → Nat → Int32 → Option MM} (hK28 : ∀ (M : MM) (a0 : Nat) (a1 : Int32), X Lv i12_layBehind 28 [(0, vr a0), (1, vi a1)] [] M (K28 M a0 a1)) : ∀ (M : MM) (a0 : Nat) (a1 : Int32) (s0 : Int32), X Lv i12_layBehind 59 [(0, vr a0), (1, vi a1)] [vi s0] M (f12_layBehind_b59 K28 M a0 a1 s0) := by
  obtain ⟨d59, d60, d61, d62, d63, d64, d67, d68, d69, d70, d73, d76, d77, d78, d81, d82, d85, d87, d88, d89, d90, d91, d92, d93, d96, d97, d98, d99, d102, d105, d106, d107, -⟩ := dd12_layBehind_b59
  intro M a0 a1 s0
  unfold f12_layBehind_b59
  refine X_istoren (lv' := [(2, vi s0), (0, vr a0), (1, vi a1)]) d59 (by decide) rfl ?_
  refine X_aloadn 1 d60 rfl ?_
  refine X_aloadn 1 d61 rfl ?_
  refine X_iloadn 2 d62 rfl ?_
  refine X_iconst k_i_0 d63 ?_
  refine X_cVi (as := [vi a1, vi (0 : Int32)]) d64 cv_x12_138 ⟨by decide, by decide⟩ rfl (Nat.le_of_ble_eq_true rfl) (T12_ruleOf M a0 a1 (0 : Int32)) (fun r64 M64 _ => ?_)
  refine X_aloadn 1 d67 rfl ?_
  refine X_iloadn 2 d68 rfl ?_
  refine X_iconst k_i_1 d69 ?_
  refine X_cVi (as := [vi a1, vi (1 : Int32)]) d70 cv_x12_138 ⟨by decide, by decide⟩ rfl (Nat.le_of_ble_eq_true rfl) (T12_ruleOf M64 a0 a1 (1 : Int32)) (fun r70 M70 _ => ?_)
  refine X_cVi (as := [vi r64, vi r70]) d73 cv_x12_368 ⟨by decide, by decide⟩ rfl (Nat.le_of_ble_eq_true rfl) (T12_head M70 a0 r64 r70) (fun r73 M73 _ => ?_)
  refine X_istoren (lv' := [(3, vi r73), (2, vi s0), (0, vr a0), (1, vi a1)]) d76 (by decide) rfl ?_
  refine X_iloadn 1 d77 rfl ?_
  refine X_if_le (t := 108) d78 rfl (fun h78 => ?_) (fun h78 => ?_)
  · refine X_sub [2, 3, 1, 0] rfl ?_
    exact (T12_layBehind_b108 hK28) M73 a0 a1 s0 r73
  · refine X_aloadn 2 d81 rfl ?_
    refine X_getR d82 fg_x12_72 ?_
    refine X_bipush k_b_30 d85 ?_
    refine X_iloadn 0 d87 rfl ?_
    refine X_imul d88 ?_
    refine X_aloadn 2 d89 rfl ?_
    refine X_aloadn 2 d90 rfl ?_
    refine X_iloadn 3 d91 rfl ?_
    refine X_iconst k_i_2 d92 ?_
    refine X_cVi (as := [vi a1, vi (2 : Int32)]) d93 cv_x12_138 ⟨by decide, by decide⟩ rfl (Nat.le_of_ble_eq_true rfl) (T12_ruleOf M73 a0 a1 (2 : Int32)) (fun r93 M93 _ => ?_)
    refine X_aloadn 2 d96 rfl ?_
    refine X_iloadn 3 d97 rfl ?_
    refine X_iconst k_i_4 d98 ?_
    refine X_cVi (as := [vi a1, vi (4 : Int32)]) d99 cv_x12_138 ⟨by decide, by decide⟩ rfl (Nat.le_of_ble_eq_true rfl) (T12_ruleOf M93 a0 a1 (4 : Int32)) (fun r99 M99 _ => ?_)
    refine X_cVi (as := [vi r93, vi r99]) d102 cv_x12_368 ⟨by decide, by decide⟩ rfl (Nat.le_of_ble_eq_true rfl) (T12_head M99 a0 r93 r99) (fun r102 M102 _ => ?_)
    refine X_iadd d105 ?_
    refine X_iconst k_i_1 d106 ?_
    refine X_bastore d107 ?_
    refine X_bM fun M107 _ => ?_
    refine X_sub [2, 3, 1, 0] rfl ?_
    exact (T12_layBehind_b108 hK28) M107 a0 a1 s0 r73

theorem dd12_layBehind_b249 : AllD (ib i12_layBehind) [(249, .iinc 2 1, 3), (252, .goto (-62), 3)] := allD_of (by decide +kernel)
def f12_layBehind_b249 (K190 : MM → Nat → Int32 → Int32 → Option MM) (M : MM) (a0 : Nat) (a1 : Int32) (a2 : Int32) : Option MM :=
  K190 M a0 a1 (a2 + (1 : Int32))
set_option maxRecDepth 4000 in
theorem T12_layBehind_b249 {K190 : MM → Nat → Int32 → Int32 → Option MM} (hK190 : ∀ (M : MM) (a0 : Nat) (a1 : Int32) (a2 : Int32), X Lv i12_layBehind 190 [(0, vr a0), (1, vi a1), (2, vi a2)] [] M (K190 M a0 a1 a2)) : ∀ (M : MM) (a0 : Nat) (a1 : Int32) (a2 : Int32), X Lv i12_layBehind 249 [(0, vr a0), (1, vi a1), (2, vi a2)] [] M (f12_layBehind_b249 K190 M a0 a1 a2) := by
  obtain ⟨d249, d252, -⟩ := dd12_layBehind_b249
  intro M a0 a1 a2
  unfold f12_layBehind_b249
  refine X_inc (lv' := [(2, vi (a2 + (1 : Int32))), (0, vr a0), (1, vi a1)]) 2 d249 k_i_1 rfl (by decide) rfl ?_
  refine X_goto (t := 190) d252 rfl ?_
  refine X_sub [1, 2, 0] rfl ?_
  exact hK190 M a0 a1 (a2 + (1 : Int32))

theorem dd12_layBehind_b198 : AllD (ib i12_layBehind) [(198, .iload_n 3, 1), (199, .bipush 30, 2), (201, .if_icmp .ge 48, 3), (204, .aload_n 0, 1), (205, .getfield 72, 3), (208, .bipush 30, 2), (210, .iload_n 2, 1), (211, .imul, 1), (212, .iload_n 1, 1), (213, .iadd, 1), (214, .baload, 1), (215, .ifCond .eq 34, 3), (218, .aload_n 0, 1), (219, .getfield 72, 3), (222, .bipush 30, 2), (224, .iload_n 2, 1), (225, .imul, 1), (226, .iload_n 3, 1), (227, .iadd, 1), (228, .dup2, 1), (229, .baload, 1), (230, .aload_n 0, 1), (231, .getfield 72, 3), (234, .bipush 30, 2), (236, .iload_n 1, 1), (237, .imul, 1), (238, .iload_n 3, 1), (239, .iadd, 1), (240, .baload, 1), (241, .ior, 1), (242, .bastore, 1), (243, .iinc 3 1, 3), (246, .goto (-48), 3)] := allD_of (by decide +kernel)
def f12_layBehind_b198_body (K190 : MM → Nat → Int32 → Int32 → Option MM) (rc : MM → Nat → Int32 → Int32 → Int32 → Option MM) (M : MM) (a0 : Nat) (a1 : Int32) (a2 : Int32) (a3 : Int32) : Option MM :=
  if (30 : Int32) ≤ a3 then
    (f12_layBehind_b249 K190) M a0 a1 a2
  else
    aO M a0 12 <|
    aA M (mR M a0 38) 2 (((30 : Int32) * a2) + a1) <|
    if (mI M (mR M a0 38) (((30 : Int32) * a2) + a1).toNatClampNeg) = 0 then
      (f12_layBehind_b249 K190) M a0 a1 a2
    else
      aO M a0 12 <|
      aA M (mR M a0 38) 2 (((30 : Int32) * a2) + a3) <|
      aO M a0 12 <|
      aA M (mR M a0 38) 2 (((30 : Int32) * a1) + a3) <|
      aA M (mR M a0 38) 2 (((30 : Int32) * a2) + a3) <|
      gd (((mI M (mR M a0 38) (((30 : Int32) * a2) + a3).toNatClampNeg) ||| (mI M (mR M a0 38) (((30 : Int32) * a1) + a3).toNatClampNeg)) = 0 ∨ ((mI M (mR M a0 38) (((30 : Int32) * a2) + a3).toNatClampNeg) ||| (mI M (mR M a0 38) (((30 : Int32) * a1) + a3).toNatClampNeg)) = 1) <|
      bM (sI M (mR M a0 38) (((30 : Int32) * a2) + a3).toNatClampNeg ((mI M (mR M a0 38) (((30 : Int32) * a2) + a3).toNatClampNeg) ||| (mI M (mR M a0 38) (((30 : Int32) * a1) + a3).toNatClampNeg))) fun M242 =>
      rc M242 a0 a1 a2 (a3 + (1 : Int32))
def f12_layBehind_b198 (K190 : MM → Nat → Int32 → Int32 → Option MM) : MM → Nat → Int32 → Int32 → Int32 → Option MM := LP5 (f12_layBehind_b198_body K190) FU
set_option maxRecDepth 4000 in
theorem T12_layBehind_b198 {K190 : MM → Nat → Int32 → Int32 → Option MM} (hK190 : ∀ (M : MM) (a0 : Nat) (a1 : Int32) (a2 : Int32), X Lv i12_layBehind 190 [(0, vr a0), (1, vi a1), (2, vi a2)] [] M (K190 M a0 a1 a2)) : ∀ (M : MM) (a0 : Nat) (a1 : Int32) (a2 : Int32) (a3 : Int32), X Lv i12_layBehind 198 [(0, vr a0), (1, vi a1), (2, vi a2), (3, vi a3)] [] M (f12_layBehind_b198 K190 M a0 a1 a2 a3) := by
  obtain ⟨d198, d199, d201, d204, d205, d208, d210, d211, d212, d213, d214, d215, d218, d219, d222, d224, d225, d226, d227, d228, d229, d230, d231, d234, d236, d237, d238, d239, d240, d241, d242, d243, d246, -⟩ := dd12_layBehind_b198
  refine LP5_i (P := fun M a0 a1 a2 a3 o => X Lv i12_layBehind 198 [(0, vr a0), (1, vi a1), (2, vi a2), (3, vi a3)] [] M o) (fun _ _ _ _ _ => X_none) (fun rc ih M a0 a1 a2 a3 => ?_) FU
  unfold f12_layBehind_b198_body
  refine X_iloadn 3 d198 rfl ?_
  refine X_bipush k_b_30 d199 ?_
  refine X_icmp_ge (t := 249) d201 rfl (fun h201 => ?_) (fun h201 => ?_)
  · refine X_sub [0, 1, 2] rfl ?_
    exact (T12_layBehind_b249 hK190) M a0 a1 a2
  · refine X_aloadn 0 d204 rfl ?_
    refine X_getR d205 fg_x12_72 ?_
    refine X_bipush k_b_30 d208 ?_
    refine X_iloadn 2 d210 rfl ?_
    refine X_imul d211 ?_
    refine X_iloadn 1 d212 rfl ?_
    refine X_iadd d213 ?_
    refine X_baload d214 ?_
    refine X_if_eq (t := 249) d215 rfl (fun h215 => ?_) (fun h215 => ?_)
    · refine X_sub [0, 1, 2] rfl ?_
      exact (T12_layBehind_b249 hK190) M a0 a1 a2
    · refine X_aloadn 0 d218 rfl ?_
      refine X_getR d219 fg_x12_72 ?_
      refine X_bipush k_b_30 d222 ?_
      refine X_iloadn 2 d224 rfl ?_
      refine X_imul d225 ?_
      refine X_iloadn 3 d226 rfl ?_
      refine X_iadd d227 ?_
      refine X_dup2 d228 ?_
      refine X_baload d229 ?_
      refine X_aloadn 0 d230 rfl ?_
      refine X_getR d231 fg_x12_72 ?_
      refine X_bipush k_b_30 d234 ?_
      refine X_iloadn 1 d236 rfl ?_
      refine X_imul d237 ?_
      refine X_iloadn 3 d238 rfl ?_
      refine X_iadd d239 ?_
      refine X_baload d240 ?_
      refine X_ior d241 ?_
      refine X_bastore d242 ?_
      refine X_bM fun M242 _ => ?_
      refine X_inc (lv' := [(3, vi (a3 + (1 : Int32))), (0, vr a0), (1, vi a1), (2, vi a2)]) 3 d243 k_i_1 rfl (by decide) rfl ?_
      refine X_goto (t := 198) d246 rfl ?_
      refine X_sub [1, 2, 3, 0] rfl ?_
      exact ih M242 a0 a1 a2 (a3 + (1 : Int32))

theorem dd12_layBehind_b190 : AllD (ib i12_layBehind) [(190, .iload_n 2, 1), (191, .bipush 30, 2), (193, .if_icmp .ge 62, 3), (196, .iconst 0, 1), (197, .istore_n 3, 1), (255, .iinc 1 1, 3), (258, .goto (-76), 3)] := allD_of (by decide +kernel)
def f12_layBehind_b190_body (K182 : MM → Nat → Int32 → Option MM) (rc : MM → Nat → Int32 → Int32 → Option MM) (M : MM) (a0 : Nat) (a1 : Int32) (a2 : Int32) : Option MM :=
  if (30 : Int32) ≤ a2 then
    K182 M a0 (a1 + (1 : Int32))
  else
    (f12_layBehind_b198 rc) M a0 a1 a2 (0 : Int32)
def f12_layBehind_b190 (K182 : MM → Nat → Int32 → Option MM) : MM → Nat → Int32 → Int32 → Option MM := LP4 (f12_layBehind_b190_body K182) FU
set_option maxRecDepth 4000 in
theorem T12_layBehind_b190 {K182 : MM → Nat → Int32 → Option MM} (hK182 : ∀ (M : MM) (a0 : Nat) (a1 : Int32), X Lv i12_layBehind 182 [(0, vr a0), (1, vi a1)] [] M (K182 M a0 a1)) : ∀ (M : MM) (a0 : Nat) (a1 : Int32) (a2 : Int32), X Lv i12_layBehind 190 [(0, vr a0), (1, vi a1), (2, vi a2)] [] M (f12_layBehind_b190 K182 M a0 a1 a2) := by
  obtain ⟨d190, d191, d193, d196, d197, d255, d258, -⟩ := dd12_layBehind_b190
  refine LP4_i (P := fun M a0 a1 a2 o => X Lv i12_layBehind 190 [(0, vr a0), (1, vi a1), (2, vi a2)] [] M o) (fun _ _ _ _ => X_none) (fun rc ih M a0 a1 a2 => ?_) FU
  unfold f12_layBehind_b190_body
  refine X_iloadn 2 d190 rfl ?_
  refine X_bipush k_b_30 d191 ?_
  refine X_icmp_ge (t := 255) d193 rfl (fun h193 => ?_) (fun h193 => ?_)
  · refine X_inc (lv' := [(1, vi (a1 + (1 : Int32))), (0, vr a0), (2, vi a2)]) 1 d255 k_i_1 rfl (by decide) rfl ?_
    refine X_goto (t := 182) d258 rfl ?_
    refine X_sub [1, 0] rfl ?_
    exact hK182 M a0 (a1 + (1 : Int32))
  · refine X_iconst k_i_0 d196 ?_
    refine X_istoren (lv' := [(3, vi (0 : Int32)), (0, vr a0), (1, vi a1), (2, vi a2)]) d197 (by decide) rfl ?_
    refine X_sub [1, 2, 3, 0] rfl ?_
    exact (T12_layBehind_b198 ih) M a0 a1 a2 (0 : Int32)

theorem dd12_layBehind_b182 : AllD (ib i12_layBehind) [(182, .iload_n 1, 1), (183, .bipush 30, 2), (185, .if_icmp .ge 76, 3), (188, .iconst 0, 1), (189, .istore_n 2, 1), (261, .return_, 1)] := allD_of (by decide +kernel)
def f12_layBehind_b182_body (rc : MM → Nat → Int32 → Option MM) (M : MM) (a0 : Nat) (a1 : Int32) : Option MM :=
  if (30 : Int32) ≤ a1 then
    some M
  else
    (f12_layBehind_b190 rc) M a0 a1 (0 : Int32)
def f12_layBehind_b182 : MM → Nat → Int32 → Option MM := LP3 (f12_layBehind_b182_body) FU
set_option maxRecDepth 4000 in
theorem T12_layBehind_b182 : ∀ (M : MM) (a0 : Nat) (a1 : Int32), X Lv i12_layBehind 182 [(0, vr a0), (1, vi a1)] [] M (f12_layBehind_b182 M a0 a1) := by
  obtain ⟨d182, d183, d185, d188, d189, d261, -⟩ := dd12_layBehind_b182
  refine LP3_i (P := fun M a0 a1 o => X Lv i12_layBehind 182 [(0, vr a0), (1, vi a1)] [] M o) (fun _ _ _ => X_none) (fun rc ih M a0 a1 => ?_) FU
  unfold f12_layBehind_b182_body
  refine X_iloadn 1 d182 rfl ?_
  refine X_bipush k_b_30 d183 ?_
  refine X_icmp_ge (t := 261) d185 rfl (fun h185 => ?_) (fun h185 => ?_)
  · exact X_vreturn d261 rfl rfl
  · refine X_iconst k_i_0 d188 ?_
    refine X_istoren (lv' := [(2, vi (0 : Int32)), (0, vr a0), (1, vi a1)]) d189 (by decide) rfl ?_
    refine X_sub [1, 2, 0] rfl ?_
    exact (T12_layBehind_b190 ih) M a0 a1 (0 : Int32)

theorem dd12_layBehind_b28 : AllD (ib i12_layBehind) [(28, .iload_n 1, 1), (29, .aload_n 0, 1), (30, .getfield 7, 3), (33, .iconst 2, 1), (34, .iaload, 1), (35, .if_icmp .ge 145, 3), (38, .aload_n 0, 1), (39, .getfield 131, 3), (42, .iload_n 1, 1), (43, .invokestatic 134, 3), (46, .ifCond .eq 7, 3), (49, .iconst 0, 1), (50, .goto 9, 3), (53, .aload_n 0, 1), (54, .iload_n 1, 1), (55, .iconst 3, 1), (56, .invokevirtual 138, 3), (180, .iconst 0, 1), (181, .istore_n 1, 1)] := allD_of (by decide +kernel)
def f12_layBehind_b28_body (rc : MM → Nat → Int32 → Option MM) (M : MM) (a0 : Nat) (a1 : Int32) : Option MM :=
  aO M a0 12 <|
  aA M (mR M a0 1) 0 (2 : Int32) <|
  if (mI M (mR M a0 1) (2 : Int32).toNatClampNeg) ≤ a1 then
    f12_layBehind_b182 M a0 (0 : Int32)
  else
    aO M a0 12 <|
    cI (f12_isOf M (mI M a0 5) a1) fun r43 M43 =>
    if r43 = 0 then
      aO M43 a0 12 <|
      cI (f12_ruleOf M43 a0 a1 (3 : Int32)) fun r56 M56 =>
      (f12_layBehind_b59 rc) M56 a0 a1 r56
    else
      (f12_layBehind_b59 rc) M43 a0 a1 (0 : Int32)
def f12_layBehind_b28 : MM → Nat → Int32 → Option MM := LP3 (f12_layBehind_b28_body) FU
set_option maxRecDepth 4000 in
theorem T12_layBehind_b28 : ∀ (M : MM) (a0 : Nat) (a1 : Int32), X Lv i12_layBehind 28 [(0, vr a0), (1, vi a1)] [] M (f12_layBehind_b28 M a0 a1) := by
  obtain ⟨d28, d29, d30, d33, d34, d35, d38, d39, d42, d43, d46, d49, d50, d53, d54, d55, d56, d180, d181, -⟩ := dd12_layBehind_b28
  refine LP3_i (P := fun M a0 a1 o => X Lv i12_layBehind 28 [(0, vr a0), (1, vi a1)] [] M o) (fun _ _ _ => X_none) (fun rc ih M a0 a1 => ?_) FU
  unfold f12_layBehind_b28_body
  refine X_iloadn 1 d28 rfl ?_
  refine X_aloadn 0 d29 rfl ?_
  refine X_getR d30 fg_x12_7 ?_
  refine X_iconst k_i_2 d33 ?_
  refine X_iaload d34 ?_
  refine X_icmp_ge (t := 180) d35 rfl (fun h35 => ?_) (fun h35 => ?_)
  · refine X_iconst k_i_0 d180 ?_
    refine X_istoren (lv' := [(1, vi (0 : Int32)), (0, vr a0)]) d181 (by decide) rfl ?_
    refine X_sub [1, 0] rfl ?_
    exact T12_layBehind_b182 M a0 (0 : Int32)
  · refine X_aloadn 0 d38 rfl ?_
    refine X_getI d39 fg_x12_131 ?_
    refine X_iloadn 1 d42 rfl ?_
    refine X_cSi (as := [vi (mI M a0 5), vi a1]) d43 cs_x12_134 ⟨by decide, by decide⟩ rfl (Nat.le_of_ble_eq_true rfl) (T12_isOf M (mI M a0 5) a1) (fun r43 M43 _ => ?_)
    refine X_if_eq (t := 53) d46 rfl (fun h46 => ?_) (fun h46 => ?_)
    · refine X_aloadn 0 d53 rfl ?_
      refine X_iloadn 1 d54 rfl ?_
      refine X_iconst k_i_3 d55 ?_
      refine X_cVi (as := [vi a1, vi (3 : Int32)]) d56 cv_x12_138 ⟨by decide, by decide⟩ rfl (Nat.le_of_ble_eq_true rfl) (T12_ruleOf M43 a0 a1 (3 : Int32)) (fun r56 M56 _ => ?_)
      exact (T12_layBehind_b59 ih) M56 a0 a1 r56
    · refine X_iconst k_i_0 d49 ?_
      refine X_goto (t := 59) d50 rfl ?_
      exact (T12_layBehind_b59 ih) M43 a0 a1 (0 : Int32)

theorem dd12_layBehind_b6 : AllD (ib i12_layBehind) [(6, .iload_n 1, 1), (7, .sipush 900, 3), (10, .if_icmp .ge 16, 3), (13, .aload_n 0, 1), (14, .getfield 72, 3), (17, .iload_n 1, 1), (18, .iconst 0, 1), (19, .bastore, 1), (20, .iinc 1 1, 3), (23, .goto (-17), 3), (26, .iconst 0, 1), (27, .istore_n 1, 1)] := allD_of (by decide +kernel)
def f12_layBehind_b6_body (rc : MM → Nat → Int32 → Option MM) (M : MM) (a0 : Nat) (a1 : Int32) : Option MM :=
  if (900 : Int32) ≤ a1 then
    f12_layBehind_b28 M a0 (0 : Int32)
  else
    aO M a0 12 <|
    aA M (mR M a0 38) 2 a1 <|
    gd ((0 : Int32) = 0 ∨ (0 : Int32) = 1) <|
    bM (sI M (mR M a0 38) a1.toNatClampNeg (0 : Int32)) fun M19 =>
    rc M19 a0 (a1 + (1 : Int32))
def f12_layBehind_b6 : MM → Nat → Int32 → Option MM := LP3 (f12_layBehind_b6_body) FU
set_option maxRecDepth 4000 in
theorem T12_layBehind_b6 : ∀ (M : MM) (a0 : Nat) (a1 : Int32), X Lv i12_layBehind 6 [(0, vr a0), (1, vi a1)] [] M (f12_layBehind_b6 M a0 a1) := by
  obtain ⟨d6, d7, d10, d13, d14, d17, d18, d19, d20, d23, d26, d27, -⟩ := dd12_layBehind_b6
  refine LP3_i (P := fun M a0 a1 o => X Lv i12_layBehind 6 [(0, vr a0), (1, vi a1)] [] M o) (fun _ _ _ => X_none) (fun rc ih M a0 a1 => ?_) FU
  unfold f12_layBehind_b6_body
  refine X_iloadn 1 d6 rfl ?_
  refine X_sipush k_s_900 d7 ?_
  refine X_icmp_ge (t := 26) d10 rfl (fun h10 => ?_) (fun h10 => ?_)
  · refine X_iconst k_i_0 d26 ?_
    refine X_istoren (lv' := [(1, vi (0 : Int32)), (0, vr a0)]) d27 (by decide) rfl ?_
    refine X_sub [1, 0] rfl ?_
    exact T12_layBehind_b28 M a0 (0 : Int32)
  · refine X_aloadn 0 d13 rfl ?_
    refine X_getR d14 fg_x12_72 ?_
    refine X_iloadn 1 d17 rfl ?_
    refine X_iconst k_i_0 d18 ?_
    refine X_bastore d19 ?_
    refine X_bM fun M19 _ => ?_
    refine X_inc (lv' := [(1, vi (a1 + (1 : Int32))), (0, vr a0)]) 1 d20 k_i_1 rfl (by decide) rfl ?_
    refine X_goto (t := 6) d23 rfl ?_
    refine X_sub [1, 0] rfl ?_
    exact ih M19 a0 (a1 + (1 : Int32))

theorem dd12_layBehind : AllD (ib i12_layBehind) [(0, .aload_n 0, 1), (1, .invokevirtual 326, 3), (4, .iconst 0, 1), (5, .istore_n 1, 1)] := allD_of (by decide +kernel)
def f12_layBehind (M : MM) (a0 : Nat) : Option MM :=
  aO M a0 12 <|
  cV (f12_layTold M a0) fun M1 =>
  f12_layBehind_b6 M1 a0 (0 : Int32)
set_option maxRecDepth 4000 in
theorem T12_layBehind (M : MM) (a0 : Nat) : ∀ q, f12_layBehind M a0 = some q → Run i12_layBehind [vr a0] M (Lv q) := by
  obtain ⟨d0, d1, d4, d5, -⟩ := dd12_layBehind
  refine Run_of_X (by decide) (Nat.le_of_ble_eq_true rfl) ?_
  show X Lv i12_layBehind 0 [(0, vr a0)] [] M _
  unfold f12_layBehind
  refine X_aloadn 0 d0 rfl ?_
  refine X_cVv (as := []) d1 cv_x12_326 ⟨by decide, by decide⟩ rfl (Nat.le_of_ble_eq_true rfl) (T12_layTold M a0) (fun M1 _ => ?_)
  refine X_iconst k_i_0 d4 ?_
  refine X_istoren (lv' := [(1, vi (0 : Int32)), (0, vr a0)]) d5 (by decide) rfl ?_
  refine X_sub [1, 0] rfl ?_
  exact T12_layBehind_b6 M1 a0 (0 : Int32)

theorem dd12_layComesUp_b40 : AllD (ib i12_layComesUp) [(40, .iconst 0, 1)] := allD_of (by decide +kernel)
def f12_layComesUp_b40 (K41 : MM → Nat → Int32 → Int32 → Int32 → Option MM) (M : MM) (a0 : Nat) (a1 : Int32) (a2 : Int32) : Option MM :=
  K41 M a0 a1 a2 (0 : Int32)
set_option maxRecDepth 4000 in
theorem T12_layComesUp_b40 {K41 : MM → Nat → Int32 → Int32 → Int32 → Option MM} (hK41 : ∀ (M : MM) (a0 : Nat) (a1 : Int32) (a2 : Int32) (s0 : Int32), X Lv i12_layComesUp 41 [(0, vr a0), (1, vi a1), (2, vi a2)] [vi s0] M (K41 M a0 a1 a2 s0)) : ∀ (M : MM) (a0 : Nat) (a1 : Int32) (a2 : Int32), X Lv i12_layComesUp 40 [(0, vr a0), (1, vi a1), (2, vi a2)] [] M (f12_layComesUp_b40 K41 M a0 a1 a2) := by
  obtain ⟨d40, -⟩ := dd12_layComesUp_b40
  intro M a0 a1 a2
  unfold f12_layComesUp_b40
  refine X_iconst k_i_0 d40 ?_
  exact hK41 M a0 a1 a2 (0 : Int32)

theorem dd12_layComesUp_b99 : AllD (ib i12_layComesUp) [(99, .iconst 0, 1)] := allD_of (by decide +kernel)
def f12_layComesUp_b99 (K100 : MM → Nat → Int32 → Int32 → Int32 → Int32 → Int32 → Option MM) (M : MM) (a0 : Nat) (a1 : Int32) (a2 : Int32) (a4 : Int32) (s0 : Int32) : Option MM :=
  K100 M a0 a1 a2 a4 (0 : Int32) s0
set_option maxRecDepth 4000 in
theorem T12_layComesUp_b99 {K100 : MM → Nat → Int32 → Int32 → Int32 → Int32 → Int32 → Option MM} (hK100 : ∀ (M : MM) (a0 : Nat) (a1 : Int32) (a2 : Int32) (a4 : Int32) (s0 : Int32) (s1 : Int32), X Lv i12_layComesUp 100 [(0, vr a0), (1, vi a1), (2, vi a2), (4, vi a4)] [vi s0, vi s1] M (K100 M a0 a1 a2 a4 s0 s1)) : ∀ (M : MM) (a0 : Nat) (a1 : Int32) (a2 : Int32) (a4 : Int32) (s0 : Int32), X Lv i12_layComesUp 99 [(0, vr a0), (1, vi a1), (2, vi a2), (4, vi a4)] [vi s0] M (f12_layComesUp_b99 K100 M a0 a1 a2 a4 s0) := by
  obtain ⟨d99, -⟩ := dd12_layComesUp_b99
  intro M a0 a1 a2 a4 s0
  unfold f12_layComesUp_b99
  refine X_iconst k_i_0 d99 ?_
  exact hK100 M a0 a1 a2 a4 (0 : Int32) s0

theorem dd12_layComesUp_b100 : AllD (ib i12_layComesUp) [(100, .ior, 1), (101, .istore_n 3, 1), (102, .iinc 4 1, 3), (105, .goto (-60), 3)] := allD_of (by decide +kernel)
def f12_layComesUp_b100 (K45 : MM → Nat → Int32 → Int32 → Int32 → Int32 → Option MM) (M : MM) (a0 : Nat) (a1 : Int32) (a2 : Int32) (a4 : Int32) (s0 : Int32) (s1 : Int32) : Option MM :=
  bW (s1 ||| s0) fun v101 =>
  K45 M a0 a1 a2 v101 (a4 + (1 : Int32))
set_option maxRecDepth 4000 in
theorem T12_layComesUp_b100 {K45 : MM → Nat → Int32 → Int32 → Int32 → Int32 → Option MM} (hK45 : ∀ (M : MM) (a0 : Nat) (a1 : Int32) (a2 : Int32) (a3 : Int32) (a4 : Int32), X Lv i12_layComesUp 45 [(0, vr a0), (1, vi a1), (2, vi a2), (3, vi a3), (4, vi a4)] [] M (K45 M a0 a1 a2 a3 a4)) : ∀ (M : MM) (a0 : Nat) (a1 : Int32) (a2 : Int32) (a4 : Int32) (s0 : Int32) (s1 : Int32), X Lv i12_layComesUp 100 [(0, vr a0), (1, vi a1), (2, vi a2), (4, vi a4)] [vi s0, vi s1] M (f12_layComesUp_b100 K45 M a0 a1 a2 a4 s0 s1) := by
  obtain ⟨d100, d101, d102, d105, -⟩ := dd12_layComesUp_b100
  intro M a0 a1 a2 a4 s0 s1
  unfold f12_layComesUp_b100
  refine X_ior d100 ?_
  refine X_bWi fun v101 _ => ?_
  refine X_istoren (lv' := [(3, vi v101), (0, vr a0), (1, vi a1), (2, vi a2), (4, vi a4)]) d101 (by decide) rfl ?_
  refine X_inc (lv' := [(4, vi (a4 + (1 : Int32))), (3, vi v101), (0, vr a0), (1, vi a1), (2, vi a2)]) 4 d102 k_i_1 rfl (by decide) rfl ?_
  refine X_goto (t := 45) d105 rfl ?_
  refine X_sub [2, 3, 4, 1, 0] rfl ?_
  exact hK45 M a0 a1 a2 v101 (a4 + (1 : Int32))

theorem dd12_layComesUp_b108 : AllD (ib i12_layComesUp) [(108, .aload_n 0, 1), (109, .getfield 76, 3), (112, .iconst 5, 1), (113, .iload_n 1, 1), (114, .imul, 1), (115, .iload_n 2, 1), (116, .iadd, 1), (117, .iload_n 3, 1), (118, .bastore, 1), (119, .iinc 2 1, 3), (122, .goto (-107), 3)] := allD_of (by decide +kernel)
def f12_layComesUp_b108 (K15 : MM → Nat → Int32 → Int32 → Option MM) (M : MM) (a0 : Nat) (a1 : Int32) (a2 : Int32) (a3 : Int32) : Option MM :=
  aO M a0 12 <|
  aA M (mR M a0 39) 2 (((5 : Int32) * a1) + a2) <|
  gd (a3 = 0 ∨ a3 = 1) <|
  bM (sI M (mR M a0 39) (((5 : Int32) * a1) + a2).toNatClampNeg a3) fun M118 =>
  K15 M118 a0 a1 (a2 + (1 : Int32))
set_option maxRecDepth 4000 in
theorem T12_layComesUp_b108 {K15 : MM → Nat → Int32 → Int32 → Option MM} (hK15 : ∀ (M : MM) (a0 : Nat) (a1 : Int32) (a2 : Int32), X Lv i12_layComesUp 15 [(0, vr a0), (1, vi a1), (2, vi a2)] [] M (K15 M a0 a1 a2)) : ∀ (M : MM) (a0 : Nat) (a1 : Int32) (a2 : Int32) (a3 : Int32), X Lv i12_layComesUp 108 [(0, vr a0), (1, vi a1), (2, vi a2), (3, vi a3)] [] M (f12_layComesUp_b108 K15 M a0 a1 a2 a3) := by
  obtain ⟨d108, d109, d112, d113, d114, d115, d116, d117, d118, d119, d122, -⟩ := dd12_layComesUp_b108
  intro M a0 a1 a2 a3
  unfold f12_layComesUp_b108
  refine X_aloadn 0 d108 rfl ?_
  refine X_getR d109 fg_x12_76 ?_
  refine X_iconst k_i_5 d112 ?_
  refine X_iloadn 1 d113 rfl ?_
  refine X_imul d114 ?_
  refine X_iloadn 2 d115 rfl ?_
  refine X_iadd d116 ?_
  refine X_iloadn 3 d117 rfl ?_
  refine X_bastore d118 ?_
  refine X_bM fun M118 _ => ?_
  refine X_inc (lv' := [(2, vi (a2 + (1 : Int32))), (0, vr a0), (1, vi a1), (3, vi a3)]) 2 d119 k_i_1 rfl (by decide) rfl ?_
  refine X_goto (t := 15) d122 rfl ?_
  refine X_sub [1, 2, 0] rfl ?_
  exact hK15 M118 a0 a1 (a2 + (1 : Int32))

theorem dd12_layComesUp_b45 : AllD (ib i12_layComesUp) [(45, .iload 4, 2), (47, .aload_n 0, 1), (48, .invokevirtual 120, 3), (51, .if_icmp .ge 57, 3), (54, .iload_n 1, 1), (55, .aload_n 0, 1), (56, .getfield 255, 3), (59, .if_icmp .ge 49, 3), (62, .iload_n 3, 1), (63, .aload_n 0, 1), (64, .getfield 76, 3), (67, .iconst 5, 1), (68, .iload_n 1, 1), (69, .iconst 1, 1), (70, .iadd, 1), (71, .imul, 1), (72, .iload 4, 2), (74, .iadd, 1), (75, .baload, 1), (76, .ifCond .eq 23, 3), (79, .aload_n 0, 1), (80, .iload 4, 2), (82, .aload_n 0, 1), (83, .getfield 29, 3), (86, .iload_n 1, 1), (87, .iaload, 1), (88, .iload_n 2, 1), (89, .invokevirtual 374, 3), (92, .ifCond .eq 7, 3), (95, .iconst 1, 1), (96, .goto 4, 3)] := allD_of (by decide +kernel)
def f12_layComesUp_b45_body (K15 : MM → Nat → Int32 → Int32 → Option MM) (rc : MM → Nat → Int32 → Int32 → Int32 → Int32 → Option MM) (M : MM) (a0 : Nat) (a1 : Int32) (a2 : Int32) (a3 : Int32) (a4 : Int32) : Option MM :=
  aO M a0 12 <|
  cI (f12_states M a0) fun r48 M48 =>
  if r48 ≤ a4 then
    (f12_layComesUp_b108 K15) M48 a0 a1 a2 a3
  else
    aO M48 a0 12 <|
    if (mI M48 a0 21) ≤ a1 then
      (f12_layComesUp_b108 K15) M48 a0 a1 a2 a3
    else
      aO M48 a0 12 <|
      aA M48 (mR M48 a0 39) 2 (((5 : Int32) * (a1 + (1 : Int32))) + a4) <|
      if (mI M48 (mR M48 a0 39) (((5 : Int32) * (a1 + (1 : Int32))) + a4).toNatClampNeg) = 0 then
        (f12_layComesUp_b99 (f12_layComesUp_b100 rc)) M48 a0 a1 a2 a4 a3
      else
        aO M48 a0 12 <|
        aA M48 (mR M48 a0 17) 0 a1 <|
        aO M48 a0 12 <|
        cI (f12_canPop M48 a0 a4 (mI M48 (mR M48 a0 17) a1.toNatClampNeg) a2) fun r89 M89 =>
        if r89 = 0 then
          (f12_layComesUp_b99 (f12_layComesUp_b100 rc)) M89 a0 a1 a2 a4 a3
        else
          (f12_layComesUp_b100 rc) M89 a0 a1 a2 a4 (1 : Int32) a3
def f12_layComesUp_b45 (K15 : MM → Nat → Int32 → Int32 → Option MM) : MM → Nat → Int32 → Int32 → Int32 → Int32 → Option MM := LP6 (f12_layComesUp_b45_body K15) FU
set_option maxRecDepth 4000 in
theorem T12_layComesUp_b45 {K15 : MM → Nat → Int32 → Int32 → Option MM} (hK15 : ∀ (M : MM) (a0 : Nat) (a1 : Int32) (a2 : Int32), X Lv i12_layComesUp 15 [(0, vr a0), (1, vi a1), (2, vi a2)] [] M (K15 M a0 a1 a2)) : ∀ (M : MM) (a0 : Nat) (a1 : Int32) (a2 : Int32) (a3 : Int32) (a4 : Int32), X Lv i12_layComesUp 45 [(0, vr a0), (1, vi a1), (2, vi a2), (3, vi a3), (4, vi a4)] [] M (f12_layComesUp_b45 K15 M a0 a1 a2 a3 a4) := by
  obtain ⟨d45, d47, d48, d51, d54, d55, d56, d59, d62, d63, d64, d67, d68, d69, d70, d71, d72, d74, d75, d76, d79, d80, d82, d83, d86, d87, d88, d89, d92, d95, d96, -⟩ := dd12_layComesUp_b45
  refine LP6_i (P := fun M a0 a1 a2 a3 a4 o => X Lv i12_layComesUp 45 [(0, vr a0), (1, vi a1), (2, vi a2), (3, vi a3), (4, vi a4)] [] M o) (fun _ _ _ _ _ _ => X_none) (fun rc ih M a0 a1 a2 a3 a4 => ?_) FU
  unfold f12_layComesUp_b45_body
  refine X_iload 4 d45 rfl ?_
  refine X_aloadn 0 d47 rfl ?_
  refine X_cVi (as := []) d48 cv_x12_120 ⟨by decide, by decide⟩ rfl (Nat.le_of_ble_eq_true rfl) (T12_states M a0) (fun r48 M48 _ => ?_)
  refine X_icmp_ge (t := 108) d51 rfl (fun h51 => ?_) (fun h51 => ?_)
  · refine X_sub [0, 1, 2, 3] rfl ?_
    exact (T12_layComesUp_b108 hK15) M48 a0 a1 a2 a3
  · refine X_iloadn 1 d54 rfl ?_
    refine X_aloadn 0 d55 rfl ?_
    refine X_getI d56 fg_x12_255 ?_
    refine X_icmp_ge (t := 108) d59 rfl (fun h59 => ?_) (fun h59 => ?_)
    · refine X_sub [0, 1, 2, 3] rfl ?_
      exact (T12_layComesUp_b108 hK15) M48 a0 a1 a2 a3
    · refine X_iloadn 3 d62 rfl ?_
      refine X_aloadn 0 d63 rfl ?_
      refine X_getR d64 fg_x12_76 ?_
      refine X_iconst k_i_5 d67 ?_
      refine X_iloadn 1 d68 rfl ?_
      refine X_iconst k_i_1 d69 ?_
      refine X_iadd d70 ?_
      refine X_imul d71 ?_
      refine X_iload 4 d72 rfl ?_
      refine X_iadd d74 ?_
      refine X_baload d75 ?_
      refine X_if_eq (t := 99) d76 rfl (fun h76 => ?_) (fun h76 => ?_)
      · refine X_sub [0, 1, 2, 4] rfl ?_
        exact (T12_layComesUp_b99 (T12_layComesUp_b100 ih)) M48 a0 a1 a2 a4 a3
      · refine X_aloadn 0 d79 rfl ?_
        refine X_iload 4 d80 rfl ?_
        refine X_aloadn 0 d82 rfl ?_
        refine X_getR d83 fg_x12_29 ?_
        refine X_iloadn 1 d86 rfl ?_
        refine X_iaload d87 ?_
        refine X_iloadn 2 d88 rfl ?_
        refine X_cVi (as := [vi a4, vi (mI M48 (mR M48 a0 17) a1.toNatClampNeg), vi a2]) d89 cv_x12_374 ⟨by decide, by decide⟩ rfl (Nat.le_of_ble_eq_true rfl) (T12_canPop M48 a0 a4 (mI M48 (mR M48 a0 17) a1.toNatClampNeg) a2) (fun r89 M89 _ => ?_)
        refine X_if_eq (t := 99) d92 rfl (fun h92 => ?_) (fun h92 => ?_)
        · refine X_sub [0, 1, 2, 4] rfl ?_
          exact (T12_layComesUp_b99 (T12_layComesUp_b100 ih)) M89 a0 a1 a2 a4 a3
        · refine X_iconst k_i_1 d95 ?_
          refine X_goto (t := 100) d96 rfl ?_
          refine X_sub [0, 1, 2, 4] rfl ?_
          exact (T12_layComesUp_b100 ih) M89 a0 a1 a2 a4 (1 : Int32) a3

theorem dd12_layComesUp_b41 : AllD (ib i12_layComesUp) [(41, .istore_n 3, 1), (42, .iconst 0, 1), (43, .istore 4, 2)] := allD_of (by decide +kernel)
def f12_layComesUp_b41 (K15 : MM → Nat → Int32 → Int32 → Option MM) (M : MM) (a0 : Nat) (a1 : Int32) (a2 : Int32) (s0 : Int32) : Option MM :=
  (f12_layComesUp_b45 K15) M a0 a1 a2 s0 (0 : Int32)
set_option maxRecDepth 4000 in
theorem T12_layComesUp_b41 {K15 : MM → Nat → Int32 → Int32 → Option MM} (hK15 : ∀ (M : MM) (a0 : Nat) (a1 : Int32) (a2 : Int32), X Lv i12_layComesUp 15 [(0, vr a0), (1, vi a1), (2, vi a2)] [] M (K15 M a0 a1 a2)) : ∀ (M : MM) (a0 : Nat) (a1 : Int32) (a2 : Int32) (s0 : Int32), X Lv i12_layComesUp 41 [(0, vr a0), (1, vi a1), (2, vi a2)] [vi s0] M (f12_layComesUp_b41 K15 M a0 a1 a2 s0) := by
  obtain ⟨d41, d42, d43, -⟩ := dd12_layComesUp_b41
  intro M a0 a1 a2 s0
  unfold f12_layComesUp_b41
  refine X_istoren (lv' := [(3, vi s0), (0, vr a0), (1, vi a1), (2, vi a2)]) d41 (by decide) rfl ?_
  refine X_iconst k_i_0 d42 ?_
  refine X_istore (lv' := [(4, vi (0 : Int32)), (3, vi s0), (0, vr a0), (1, vi a1), (2, vi a2)]) d43 (by decide) rfl ?_
  refine X_sub [2, 3, 4, 1, 0] rfl ?_
  exact (T12_layComesUp_b45 hK15) M a0 a1 a2 s0 (0 : Int32)

theorem dd12_layComesUp_b15 : AllD (ib i12_layComesUp) [(15, .iload_n 2, 1), (16, .iconst 5, 1), (17, .if_icmp .ge 108, 3), (20, .iload_n 1, 1), (21, .aload_n 0, 1), (22, .getfield 255, 3), (25, .if_icmp .ne 15, 3), (28, .iload_n 2, 1), (29, .aload_n 0, 1), (30, .getfield 252, 3), (33, .if_icmp .ne 7, 3), (36, .iconst 1, 1), (37, .goto 4, 3), (125, .iinc 1 (-1), 3), (128, .goto (-119), 3)] := allD_of (by decide +kernel)
def f12_layComesUp_b15_body (K9 : MM → Nat → Int32 → Option MM) (rc : MM → Nat → Int32 → Int32 → Option MM) (M : MM) (a0 : Nat) (a1 : Int32) (a2 : Int32) : Option MM :=
  if (5 : Int32) ≤ a2 then
    K9 M a0 (a1 + (-1 : Int32))
  else
    aO M a0 12 <|
    if a1 = (mI M a0 21) then
      aO M a0 12 <|
      if a2 = (mI M a0 20) then
        (f12_layComesUp_b41 rc) M a0 a1 a2 (1 : Int32)
      else
        (f12_layComesUp_b40 (f12_layComesUp_b41 rc)) M a0 a1 a2
    else
      (f12_layComesUp_b40 (f12_layComesUp_b41 rc)) M a0 a1 a2
def f12_layComesUp_b15 (K9 : MM → Nat → Int32 → Option MM) : MM → Nat → Int32 → Int32 → Option MM := LP4 (f12_layComesUp_b15_body K9) FU
set_option maxRecDepth 4000 in
theorem T12_layComesUp_b15 {K9 : MM → Nat → Int32 → Option MM} (hK9 : ∀ (M : MM) (a0 : Nat) (a1 : Int32), X Lv i12_layComesUp 9 [(0, vr a0), (1, vi a1)] [] M (K9 M a0 a1)) : ∀ (M : MM) (a0 : Nat) (a1 : Int32) (a2 : Int32), X Lv i12_layComesUp 15 [(0, vr a0), (1, vi a1), (2, vi a2)] [] M (f12_layComesUp_b15 K9 M a0 a1 a2) := by
  obtain ⟨d15, d16, d17, d20, d21, d22, d25, d28, d29, d30, d33, d36, d37, d125, d128, -⟩ := dd12_layComesUp_b15
  refine LP4_i (P := fun M a0 a1 a2 o => X Lv i12_layComesUp 15 [(0, vr a0), (1, vi a1), (2, vi a2)] [] M o) (fun _ _ _ _ => X_none) (fun rc ih M a0 a1 a2 => ?_) FU
  unfold f12_layComesUp_b15_body
  refine X_iloadn 2 d15 rfl ?_
  refine X_iconst k_i_5 d16 ?_
  refine X_icmp_ge (t := 125) d17 rfl (fun h17 => ?_) (fun h17 => ?_)
  · refine X_inc (lv' := [(1, vi (a1 + (-1 : Int32))), (0, vr a0), (2, vi a2)]) 1 d125 k_i_m1 rfl (by decide) rfl ?_
    refine X_goto (t := 9) d128 rfl ?_
    refine X_sub [1, 0] rfl ?_
    exact hK9 M a0 (a1 + (-1 : Int32))
  · refine X_iloadn 1 d20 rfl ?_
    refine X_aloadn 0 d21 rfl ?_
    refine X_getI d22 fg_x12_255 ?_
    refine X_icmp_ne (t := 40) d25 rfl (fun h25 => ?_) (fun h25 => ?_)
    · refine X_iloadn 2 d28 rfl ?_
      refine X_aloadn 0 d29 rfl ?_
      refine X_getI d30 fg_x12_252 ?_
      refine X_icmp_ne (t := 40) d33 rfl (fun h33 => ?_) (fun h33 => ?_)
      · refine X_iconst k_i_1 d36 ?_
        refine X_goto (t := 41) d37 rfl ?_
        exact (T12_layComesUp_b41 ih) M a0 a1 a2 (1 : Int32)
      · exact (T12_layComesUp_b40 (T12_layComesUp_b41 ih)) M a0 a1 a2
    · exact (T12_layComesUp_b40 (T12_layComesUp_b41 ih)) M a0 a1 a2

theorem dd12_layComesUp_b9 : AllD (ib i12_layComesUp) [(9, .iload_n 1, 1), (10, .ifCond .lt 121, 3), (13, .iconst 0, 1), (14, .istore_n 2, 1), (131, .return_, 1)] := allD_of (by decide +kernel)
def f12_layComesUp_b9_body (rc : MM → Nat → Int32 → Option MM) (M : MM) (a0 : Nat) (a1 : Int32) : Option MM :=
  if a1 < 0 then
    some M
  else
    (f12_layComesUp_b15 rc) M a0 a1 (0 : Int32)
def f12_layComesUp_b9 : MM → Nat → Int32 → Option MM := LP3 (f12_layComesUp_b9_body) FU
set_option maxRecDepth 4000 in
theorem T12_layComesUp_b9 : ∀ (M : MM) (a0 : Nat) (a1 : Int32), X Lv i12_layComesUp 9 [(0, vr a0), (1, vi a1)] [] M (f12_layComesUp_b9 M a0 a1) := by
  obtain ⟨d9, d10, d13, d14, d131, -⟩ := dd12_layComesUp_b9
  refine LP3_i (P := fun M a0 a1 o => X Lv i12_layComesUp 9 [(0, vr a0), (1, vi a1)] [] M o) (fun _ _ _ => X_none) (fun rc ih M a0 a1 => ?_) FU
  unfold f12_layComesUp_b9_body
  refine X_iloadn 1 d9 rfl ?_
  refine X_if_lt (t := 131) d10 rfl (fun h10 => ?_) (fun h10 => ?_)
  · exact X_vreturn d131 rfl rfl
  · refine X_iconst k_i_0 d13 ?_
    refine X_istoren (lv' := [(2, vi (0 : Int32)), (0, vr a0), (1, vi a1)]) d14 (by decide) rfl ?_
    refine X_sub [1, 2, 0] rfl ?_
    exact (T12_layComesUp_b15 ih) M a0 a1 (0 : Int32)

theorem dd12_layComesUp : AllD (ib i12_layComesUp) [(0, .aload_n 0, 1), (1, .invokevirtual 326, 3), (4, .aload_n 0, 1), (5, .getfield 255, 3), (8, .istore_n 1, 1)] := allD_of (by decide +kernel)
def f12_layComesUp (M : MM) (a0 : Nat) : Option MM :=
  aO M a0 12 <|
  cV (f12_layTold M a0) fun M1 =>
  aO M1 a0 12 <|
  bW (mI M1 a0 21) fun v8 =>
  f12_layComesUp_b9 M1 a0 v8
set_option maxRecDepth 4000 in
theorem T12_layComesUp (M : MM) (a0 : Nat) : ∀ q, f12_layComesUp M a0 = some q → Run i12_layComesUp [vr a0] M (Lv q) := by
  obtain ⟨d0, d1, d4, d5, d8, -⟩ := dd12_layComesUp
  refine Run_of_X (by decide) (Nat.le_of_ble_eq_true rfl) ?_
  show X Lv i12_layComesUp 0 [(0, vr a0)] [] M _
  unfold f12_layComesUp
  refine X_aloadn 0 d0 rfl ?_
  refine X_cVv (as := []) d1 cv_x12_326 ⟨by decide, by decide⟩ rfl (Nat.le_of_ble_eq_true rfl) (T12_layTold M a0) (fun M1 _ => ?_)
  refine X_aloadn 0 d4 rfl ?_
  refine X_getI d5 fg_x12_255 ?_
  refine X_bWi fun v8 _ => ?_
  refine X_istoren (lv' := [(1, vi v8), (0, vr a0)]) d8 (by decide) rfl ?_
  refine X_sub [1, 0] rfl ?_
  exact T12_layComesUp_b9 M1 a0 v8

theorem dd12_goesOnAt_b56 : AllD (ib i12_goesOnAt) [(56, .iinc 4 1, 3), (59, .goto (-49), 3)] := allD_of (by decide +kernel)
def f12_goesOnAt_b56 (K10 : MM → Nat → Int32 → Int32 → Option (Int32 × MM)) (M : MM) (a0 : Nat) (a3 : Int32) (a4 : Int32) : Option (Int32 × MM) :=
  K10 M a0 a3 (a4 + (1 : Int32))
set_option maxRecDepth 4000 in
theorem T12_goesOnAt_b56 {K10 : MM → Nat → Int32 → Int32 → Option (Int32 × MM)} (hK10 : ∀ (M : MM) (a0 : Nat) (a3 : Int32) (a4 : Int32), X Li i12_goesOnAt 10 [(0, vr a0), (3, vi a3), (4, vi a4)] [] M (K10 M a0 a3 a4)) : ∀ (M : MM) (a0 : Nat) (a3 : Int32) (a4 : Int32), X Li i12_goesOnAt 56 [(0, vr a0), (3, vi a3), (4, vi a4)] [] M (f12_goesOnAt_b56 K10 M a0 a3 a4) := by
  obtain ⟨d56, d59, -⟩ := dd12_goesOnAt_b56
  intro M a0 a3 a4
  unfold f12_goesOnAt_b56
  refine X_inc (lv' := [(4, vi (a4 + (1 : Int32))), (0, vr a0), (3, vi a3)]) 2 d56 k_i_1 rfl (by decide) rfl ?_
  refine X_goto (t := 10) d59 rfl ?_
  refine X_sub [1, 2, 0] rfl ?_
  exact hK10 M a0 a3 (a4 + (1 : Int32))

theorem dd12_goesOnAt_b10 : AllD (ib i12_goesOnAt) [(10, .iload 4, 2), (12, .bipush 30, 2), (14, .if_icmp .ge 48, 3), (17, .aload_n 0, 1), (18, .getfield 72, 3), (21, .bipush 30, 2), (23, .iload 4, 2), (25, .imul, 1), (26, .iload 4, 2), (28, .iadd, 1), (29, .baload, 1), (30, .ifCond .eq 26, 3), (33, .iload 4, 2), (35, .iload_n 3, 1), (36, .if_icmp .eq 18, 3), (39, .aload_n 0, 1), (40, .getfield 72, 3), (43, .bipush 30, 2), (45, .iload_n 3, 1), (46, .imul, 1), (47, .iload 4, 2), (49, .iadd, 1), (50, .baload, 1), (51, .ifCond .eq 5, 3), (54, .iconst 1, 1), (55, .ireturn, 1), (62, .iconst 0, 1), (63, .ireturn, 1)] := allD_of (by decide +kernel)
def f12_goesOnAt_b10_body (rc : MM → Nat → Int32 → Int32 → Option (Int32 × MM)) (M : MM) (a0 : Nat) (a3 : Int32) (a4 : Int32) : Option (Int32 × MM) :=
  if (30 : Int32) ≤ a4 then
    some ((0 : Int32), M)
  else
    aO M a0 12 <|
    aA M (mR M a0 38) 2 (((30 : Int32) * a4) + a4) <|
    if (mI M (mR M a0 38) (((30 : Int32) * a4) + a4).toNatClampNeg) = 0 then
      (f12_goesOnAt_b56 rc) M a0 a3 a4
    else
      if a4 = a3 then
        some ((1 : Int32), M)
      else
        aO M a0 12 <|
        aA M (mR M a0 38) 2 (((30 : Int32) * a3) + a4) <|
        if (mI M (mR M a0 38) (((30 : Int32) * a3) + a4).toNatClampNeg) = 0 then
          (f12_goesOnAt_b56 rc) M a0 a3 a4
        else
          some ((1 : Int32), M)
def f12_goesOnAt_b10 : MM → Nat → Int32 → Int32 → Option (Int32 × MM) := LP4 (f12_goesOnAt_b10_body) FU
set_option maxRecDepth 4000 in
theorem T12_goesOnAt_b10 : ∀ (M : MM) (a0 : Nat) (a3 : Int32) (a4 : Int32), X Li i12_goesOnAt 10 [(0, vr a0), (3, vi a3), (4, vi a4)] [] M (f12_goesOnAt_b10 M a0 a3 a4) := by
  obtain ⟨d10, d12, d14, d17, d18, d21, d23, d25, d26, d28, d29, d30, d33, d35, d36, d39, d40, d43, d45, d46, d47, d49, d50, d51, d54, d55, d62, d63, -⟩ := dd12_goesOnAt_b10
  refine LP4_i (P := fun M a0 a3 a4 o => X Li i12_goesOnAt 10 [(0, vr a0), (3, vi a3), (4, vi a4)] [] M o) (fun _ _ _ _ => X_none) (fun rc ih M a0 a3 a4 => ?_) FU
  unfold f12_goesOnAt_b10_body
  refine X_iload 2 d10 rfl ?_
  refine X_bipush k_b_30 d12 ?_
  refine X_icmp_ge (t := 62) d14 rfl (fun h14 => ?_) (fun h14 => ?_)
  · refine X_iconst k_i_0 d62 ?_
    exact X_zreturnc d63 rfl (by decide) rfl
  · refine X_aloadn 0 d17 rfl ?_
    refine X_getR d18 fg_x12_72 ?_
    refine X_bipush k_b_30 d21 ?_
    refine X_iload 2 d23 rfl ?_
    refine X_imul d25 ?_
    refine X_iload 2 d26 rfl ?_
    refine X_iadd d28 ?_
    refine X_baload d29 ?_
    refine X_if_eq (t := 56) d30 rfl (fun h30 => ?_) (fun h30 => ?_)
    · exact (T12_goesOnAt_b56 ih) M a0 a3 a4
    · refine X_iload 2 d33 rfl ?_
      refine X_iloadn 1 d35 rfl ?_
      refine X_icmp_eq (t := 54) d36 rfl (fun h36 => ?_) (fun h36 => ?_)
      · refine X_iconst k_i_1 d54 ?_
        exact X_zreturnc d55 rfl (by decide) rfl
      · refine X_aloadn 0 d39 rfl ?_
        refine X_getR d40 fg_x12_72 ?_
        refine X_bipush k_b_30 d43 ?_
        refine X_iloadn 1 d45 rfl ?_
        refine X_imul d46 ?_
        refine X_iload 2 d47 rfl ?_
        refine X_iadd d49 ?_
        refine X_baload d50 ?_
        refine X_if_eq (t := 56) d51 rfl (fun h51 => ?_) (fun h51 => ?_)
        · exact (T12_goesOnAt_b56 ih) M a0 a3 a4
        · refine X_iconst k_i_1 d54 ?_
          exact X_zreturnc d55 rfl (by decide) rfl

theorem dd12_goesOnAt : AllD (ib i12_goesOnAt) [(0, .aload_n 0, 1), (1, .iload_n 1, 1), (2, .iload_n 2, 1), (3, .invokevirtual 368, 3), (6, .istore_n 3, 1), (7, .iconst 0, 1), (8, .istore 4, 2)] := allD_of (by decide +kernel)
def f12_goesOnAt (M : MM) (a0 : Nat) (a1 : Int32) (a2 : Int32) : Option (Int32 × MM) :=
  aO M a0 12 <|
  cI (f12_head M a0 a1 a2) fun r3 M3 =>
  f12_goesOnAt_b10 M3 a0 r3 (0 : Int32)
set_option maxRecDepth 4000 in
theorem T12_goesOnAt (M : MM) (a0 : Nat) (a1 : Int32) (a2 : Int32) : ∀ q, f12_goesOnAt M a0 a1 a2 = some q → Run i12_goesOnAt [vr a0, vi a1, vi a2] M (Li q) := by
  obtain ⟨d0, d1, d2, d3, d6, d7, d8, -⟩ := dd12_goesOnAt
  refine Run_of_X (by decide) (Nat.le_of_ble_eq_true rfl) ?_
  show X Li i12_goesOnAt 0 [(0, vr a0), (1, vi a1), (2, vi a2)] [] M _
  unfold f12_goesOnAt
  refine X_aloadn 0 d0 rfl ?_
  refine X_iloadn 1 d1 rfl ?_
  refine X_iloadn 2 d2 rfl ?_
  refine X_cVi (as := [vi a1, vi a2]) d3 cv_x12_368 ⟨by decide, by decide⟩ rfl (Nat.le_of_ble_eq_true rfl) (T12_head M a0 a1 a2) (fun r3 M3 _ => ?_)
  refine X_istoren (lv' := [(3, vi r3), (0, vr a0), (1, vi a1), (2, vi a2)]) d6 (by decide) rfl ?_
  refine X_iconst k_i_0 d7 ?_
  refine X_istore (lv' := [(4, vi (0 : Int32)), (3, vi r3), (0, vr a0), (1, vi a1), (2, vi a2)]) d8 (by decide) rfl ?_
  refine X_sub [2, 1, 0] rfl ?_
  exact T12_goesOnAt_b10 M3 a0 r3 (0 : Int32)

theorem dd12_isEndless_b59 : AllD (ib i12_isEndless) [(59, .iinc 2 1, 3), (62, .goto (-42), 3)] := allD_of (by decide +kernel)
def f12_isEndless_b59 (K20 : MM → Nat → Int32 → Int32 → Option (Int32 × MM)) (M : MM) (a0 : Nat) (a1 : Int32) (a2 : Int32) : Option (Int32 × MM) :=
  K20 M a0 a1 (a2 + (1 : Int32))
set_option maxRecDepth 4000 in
theorem T12_isEndless_b59 {K20 : MM → Nat → Int32 → Int32 → Option (Int32 × MM)} (hK20 : ∀ (M : MM) (a0 : Nat) (a1 : Int32) (a2 : Int32), X Li i12_isEndless 20 [(0, vr a0), (1, vi a1), (2, vi a2)] [] M (K20 M a0 a1 a2)) : ∀ (M : MM) (a0 : Nat) (a1 : Int32) (a2 : Int32), X Li i12_isEndless 59 [(0, vr a0), (1, vi a1), (2, vi a2)] [] M (f12_isEndless_b59 K20 M a0 a1 a2) := by
  obtain ⟨d59, d62, -⟩ := dd12_isEndless_b59
  intro M a0 a1 a2
  unfold f12_isEndless_b59
  refine X_inc (lv' := [(2, vi (a2 + (1 : Int32))), (0, vr a0), (1, vi a1)]) 2 d59 k_i_1 rfl (by decide) rfl ?_
  refine X_goto (t := 20) d62 rfl ?_
  refine X_sub [1, 2, 0] rfl ?_
  exact hK20 M a0 a1 (a2 + (1 : Int32))

theorem dd12_isEndless_b20 : AllD (ib i12_isEndless) [(20, .iload_n 2, 1), (21, .aload_n 0, 1), (22, .invokevirtual 120, 3), (25, .if_icmp .ge 40, 3), (28, .aload_n 0, 1), (29, .getfield 76, 3), (32, .iconst 5, 1), (33, .iload_n 1, 1), (34, .imul, 1), (35, .iload_n 2, 1), (36, .iadd, 1), (37, .baload, 1), (38, .ifCond .eq 21, 3), (41, .aload_n 0, 1), (42, .iload_n 2, 1), (43, .aload_n 0, 1), (44, .getfield 29, 3), (47, .iload_n 1, 1), (48, .iconst 1, 1), (49, .isub, 1), (50, .iaload, 1), (51, .invokevirtual 389, 3), (54, .ifCond .eq 5, 3), (57, .iconst 1, 1), (58, .ireturn, 1), (65, .iinc 1 1, 3), (68, .goto (-58), 3)] := allD_of (by decide +kernel)
def f12_isEndless_b20_body (K10 : MM → Nat → Int32 → Option (Int32 × MM)) (rc : MM → Nat → Int32 → Int32 → Option (Int32 × MM)) (M : MM) (a0 : Nat) (a1 : Int32) (a2 : Int32) : Option (Int32 × MM) :=
  aO M a0 12 <|
  cI (f12_states M a0) fun r22 M22 =>
  if r22 ≤ a2 then
    K10 M22 a0 (a1 + (1 : Int32))
  else
    aO M22 a0 12 <|
    aA M22 (mR M22 a0 39) 2 (((5 : Int32) * a1) + a2) <|
    if (mI M22 (mR M22 a0 39) (((5 : Int32) * a1) + a2).toNatClampNeg) = 0 then
      (f12_isEndless_b59 rc) M22 a0 a1 a2
    else
      aO M22 a0 12 <|
      aA M22 (mR M22 a0 17) 0 (a1 - (1 : Int32)) <|
      aO M22 a0 12 <|
      cI (f12_goesOnAt M22 a0 a2 (mI M22 (mR M22 a0 17) (a1 - (1 : Int32)).toNatClampNeg)) fun r51 M51 =>
      if r51 = 0 then
        (f12_isEndless_b59 rc) M51 a0 a1 a2
      else
        some ((1 : Int32), M51)
def f12_isEndless_b20 (K10 : MM → Nat → Int32 → Option (Int32 × MM)) : MM → Nat → Int32 → Int32 → Option (Int32 × MM) := LP4 (f12_isEndless_b20_body K10) FU
set_option maxRecDepth 4000 in
theorem T12_isEndless_b20 {K10 : MM → Nat → Int32 → Option (Int32 × MM)} (hK10 : ∀ (M : MM) (a0 : Nat) (a1 : Int32), X Li i12_isEndless 10 [(0, vr a0), (1, vi a1)] [] M (K10 M a0 a1)) : ∀ (M : MM) (a0 : Nat) (a1 : Int32) (a2 : Int32), X Li i12_isEndless 20 [(0, vr a0), (1, vi a1), (2, vi a2)] [] M (f12_isEndless_b20 K10 M a0 a1 a2) := by
  obtain ⟨d20, d21, d22, d25, d28, d29, d32, d33, d34, d35, d36, d37, d38, d41, d42, d43, d44, d47, d48, d49, d50, d51, d54, d57, d58, d65, d68, -⟩ := dd12_isEndless_b20
  refine LP4_i (P := fun M a0 a1 a2 o => X Li i12_isEndless 20 [(0, vr a0), (1, vi a1), (2, vi a2)] [] M o) (fun _ _ _ _ => X_none) (fun rc ih M a0 a1 a2 => ?_) FU
  unfold f12_isEndless_b20_body
  refine X_iloadn 2 d20 rfl ?_
  refine X_aloadn 0 d21 rfl ?_
  refine X_cVi (as := []) d22 cv_x12_120 ⟨by decide, by decide⟩ rfl (Nat.le_of_ble_eq_true rfl) (T12_states M a0) (fun r22 M22 _ => ?_)
  refine X_icmp_ge (t := 65) d25 rfl (fun h25 => ?_) (fun h25 => ?_)
  · refine X_inc (lv' := [(1, vi (a1 + (1 : Int32))), (0, vr a0), (2, vi a2)]) 1 d65 k_i_1 rfl (by decide) rfl ?_
    refine X_goto (t := 10) d68 rfl ?_
    refine X_sub [1, 0] rfl ?_
    exact hK10 M22 a0 (a1 + (1 : Int32))
  · refine X_aloadn 0 d28 rfl ?_
    refine X_getR d29 fg_x12_76 ?_
    refine X_iconst k_i_5 d32 ?_
    refine X_iloadn 1 d33 rfl ?_
    refine X_imul d34 ?_
    refine X_iloadn 2 d35 rfl ?_
    refine X_iadd d36 ?_
    refine X_baload d37 ?_
    refine X_if_eq (t := 59) d38 rfl (fun h38 => ?_) (fun h38 => ?_)
    · exact (T12_isEndless_b59 ih) M22 a0 a1 a2
    · refine X_aloadn 0 d41 rfl ?_
      refine X_iloadn 2 d42 rfl ?_
      refine X_aloadn 0 d43 rfl ?_
      refine X_getR d44 fg_x12_29 ?_
      refine X_iloadn 1 d47 rfl ?_
      refine X_iconst k_i_1 d48 ?_
      refine X_isub d49 ?_
      refine X_iaload d50 ?_
      refine X_cVi (as := [vi a2, vi (mI M22 (mR M22 a0 17) (a1 - (1 : Int32)).toNatClampNeg)]) d51 cv_x12_389 ⟨by decide, by decide⟩ rfl (Nat.le_of_ble_eq_true rfl) (T12_goesOnAt M22 a0 a2 (mI M22 (mR M22 a0 17) (a1 - (1 : Int32)).toNatClampNeg)) (fun r51 M51 _ => ?_)
      refine X_if_eq (t := 59) d54 rfl (fun h54 => ?_) (fun h54 => ?_)
      · exact (T12_isEndless_b59 ih) M51 a0 a1 a2
      · refine X_iconst k_i_1 d57 ?_
        exact X_zreturnc d58 rfl (by decide) rfl

theorem dd12_isEndless_b10 : AllD (ib i12_isEndless) [(10, .iload_n 1, 1), (11, .aload_n 0, 1), (12, .getfield 255, 3), (15, .if_icmp .gt 56, 3), (18, .iconst 0, 1), (19, .istore_n 2, 1), (71, .iconst 0, 1), (72, .ireturn, 1)] := allD_of (by decide +kernel)
def f12_isEndless_b10_body (rc : MM → Nat → Int32 → Option (Int32 × MM)) (M : MM) (a0 : Nat) (a1 : Int32) : Option (Int32 × MM) :=
  aO M a0 12 <|
  if (mI M a0 21) < a1 then
    some ((0 : Int32), M)
  else
    (f12_isEndless_b20 rc) M a0 a1 (0 : Int32)
def f12_isEndless_b10 : MM → Nat → Int32 → Option (Int32 × MM) := LP3 (f12_isEndless_b10_body) FU
set_option maxRecDepth 4000 in
theorem T12_isEndless_b10 : ∀ (M : MM) (a0 : Nat) (a1 : Int32), X Li i12_isEndless 10 [(0, vr a0), (1, vi a1)] [] M (f12_isEndless_b10 M a0 a1) := by
  obtain ⟨d10, d11, d12, d15, d18, d19, d71, d72, -⟩ := dd12_isEndless_b10
  refine LP3_i (P := fun M a0 a1 o => X Li i12_isEndless 10 [(0, vr a0), (1, vi a1)] [] M o) (fun _ _ _ => X_none) (fun rc ih M a0 a1 => ?_) FU
  unfold f12_isEndless_b10_body
  refine X_iloadn 1 d10 rfl ?_
  refine X_aloadn 0 d11 rfl ?_
  refine X_getI d12 fg_x12_255 ?_
  refine X_icmp_gt (t := 71) d15 rfl (fun h15 => ?_) (fun h15 => ?_)
  · refine X_iconst k_i_0 d71 ?_
    exact X_zreturnc d72 rfl (by decide) rfl
  · refine X_iconst k_i_0 d18 ?_
    refine X_istoren (lv' := [(2, vi (0 : Int32)), (0, vr a0), (1, vi a1)]) d19 (by decide) rfl ?_
    refine X_sub [1, 2, 0] rfl ?_
    exact (T12_isEndless_b20 ih) M a0 a1 (0 : Int32)

theorem dd12_isEndless : AllD (ib i12_isEndless) [(0, .aload_n 0, 1), (1, .invokevirtual 386, 3), (4, .aload_n 0, 1), (5, .invokevirtual 383, 3), (8, .iconst 1, 1), (9, .istore_n 1, 1)] := allD_of (by decide +kernel)
def f12_isEndless (M : MM) (a0 : Nat) : Option (Int32 × MM) :=
  aO M a0 12 <|
  cV (f12_layBehind M a0) fun M1 =>
  aO M1 a0 12 <|
  cV (f12_layComesUp M1 a0) fun M5 =>
  f12_isEndless_b10 M5 a0 (1 : Int32)
set_option maxRecDepth 4000 in
theorem T12_isEndless (M : MM) (a0 : Nat) : ∀ q, f12_isEndless M a0 = some q → Run i12_isEndless [vr a0] M (Li q) := by
  obtain ⟨d0, d1, d4, d5, d8, d9, -⟩ := dd12_isEndless
  refine Run_of_X (by decide) (Nat.le_of_ble_eq_true rfl) ?_
  show X Li i12_isEndless 0 [(0, vr a0)] [] M _
  unfold f12_isEndless
  refine X_aloadn 0 d0 rfl ?_
  refine X_cVv (as := []) d1 cv_x12_386 ⟨by decide, by decide⟩ rfl (Nat.le_of_ble_eq_true rfl) (T12_layBehind M a0) (fun M1 _ => ?_)
  refine X_aloadn 0 d4 rfl ?_
  refine X_cVv (as := []) d5 cv_x12_383 ⟨by decide, by decide⟩ rfl (Nat.le_of_ble_eq_true rfl) (T12_layComesUp M1 a0) (fun M5 _ => ?_)
  refine X_iconst k_i_1 d8 ?_
  refine X_istoren (lv' := [(1, vi (1 : Int32)), (0, vr a0)]) d9 (by decide) rfl ?_
  refine X_sub [1, 0] rfl ?_
  exact T12_isEndless_b10 M5 a0 (1 : Int32)

theorem dd12_endless : AllD (ib i12_endless) [(0, .aload_n 0, 1), (1, .iconst 0, 1), (2, .putfield 113, 3), (5, .aload_n 0, 1), (6, .getfield 236, 3), (9, .ifCond .eq 18, 3), (12, .aload_n 0, 1), (13, .invokevirtual 392, 3), (16, .ifCond .eq 7, 3), (19, .iconst 1, 1), (20, .goto 8, 3), (23, .iconst 0, 1), (24, .goto 4, 3), (27, .iconst (-1), 1), (28, .ireturn, 1)] := allD_of (by decide +kernel)
def f12_endless (M : MM) (a0 : Nat) : Option (Int32 × MM) :=
  aO M a0 12 <|
  bM (sI M a0 0 (0 : Int32)) fun M2 =>
  aO M2 a0 12 <|
  if (mI M2 a0 19) = 0 then
    some ((-1 : Int32), M2)
  else
    aO M2 a0 12 <|
    cI (f12_isEndless M2 a0) fun r13 M13 =>
    if r13 = 0 then
      some ((0 : Int32), M13)
    else
      some ((1 : Int32), M13)
set_option maxRecDepth 4000 in
theorem T12_endless (M : MM) (a0 : Nat) : ∀ q, f12_endless M a0 = some q → Run i12_endless [vr a0] M (Li q) := by
  obtain ⟨d0, d1, d2, d5, d6, d9, d12, d13, d16, d19, d20, d23, d24, d27, d28, -⟩ := dd12_endless
  refine Run_of_X (by decide) (Nat.le_of_ble_eq_true rfl) ?_
  show X Li i12_endless 0 [(0, vr a0)] [] M _
  unfold f12_endless
  refine X_aloadn 0 d0 rfl ?_
  refine X_iconst k_i_0 d1 ?_
  refine X_putI d2 fp_x12_113 ?_
  refine X_bM fun M2 _ => ?_
  refine X_aloadn 0 d5 rfl ?_
  refine X_getI d6 fg_x12_236 ?_
  refine X_if_eq (t := 27) d9 rfl (fun h9 => ?_) (fun h9 => ?_)
  · refine X_iconst k_i_m1 d27 ?_
    exact X_ireturn d28 rfl rfl
  · refine X_aloadn 0 d12 rfl ?_
    refine X_cVi (as := []) d13 cv_x12_392 ⟨by decide, by decide⟩ rfl (Nat.le_of_ble_eq_true rfl) (T12_isEndless M2 a0) (fun r13 M13 _ => ?_)
    refine X_if_eq (t := 23) d16 rfl (fun h16 => ?_) (fun h16 => ?_)
    · refine X_iconst k_i_0 d23 ?_
      refine X_goto (t := 28) d24 rfl ?_
      exact X_ireturn d28 rfl rfl
    · refine X_iconst k_i_1 d19 ?_
      refine X_goto (t := 28) d20 rfl ?_
      exact X_ireturn d28 rfl rfl

theorem dd12_fault : AllD (ib i12_fault) [(0, .aload_n 0, 1), (1, .iconst 0, 1), (2, .putfield 113, 3), (5, .iload_n 1, 1), (6, .ifCond .ne 10, 3), (9, .aload_n 0, 1), (10, .getfield 197, 3), (13, .goto 16, 3), (16, .iload_n 1, 1), (17, .iconst 1, 1), (18, .if_icmp .ne 10, 3), (21, .aload_n 0, 1), (22, .getfield 25, 3), (25, .goto 4, 3), (28, .iconst (-1), 1), (29, .ireturn, 1)] := allD_of (by decide +kernel)
def f12_fault (M : MM) (a0 : Nat) (a1 : Int32) : Option (Int32 × MM) :=
  aO M a0 12 <|
  bM (sI M a0 0 (0 : Int32)) fun M2 =>
  if a1 = 0 then
    aO M2 a0 12 <|
    some (mI M2 a0 13, M2)
  else
    if a1 = (1 : Int32) then
      aO M2 a0 12 <|
      some (mI M2 a0 14, M2)
    else
      some ((-1 : Int32), M2)
set_option maxRecDepth 4000 in
theorem T12_fault (M : MM) (a0 : Nat) (a1 : Int32) : ∀ q, f12_fault M a0 a1 = some q → Run i12_fault [vr a0, vi a1] M (Li q) := by
  obtain ⟨d0, d1, d2, d5, d6, d9, d10, d13, d16, d17, d18, d21, d22, d25, d28, d29, -⟩ := dd12_fault
  refine Run_of_X (by decide) (Nat.le_of_ble_eq_true rfl) ?_
  show X Li i12_fault 0 [(0, vr a0), (1, vi a1)] [] M _
  unfold f12_fault
  refine X_aloadn 0 d0 rfl ?_
  refine X_iconst k_i_0 d1 ?_
  refine X_putI d2 fp_x12_113 ?_
  refine X_bM fun M2 _ => ?_
  refine X_iloadn 1 d5 rfl ?_
  refine X_if_ne (t := 16) d6 rfl (fun h6 => ?_) (fun h6 => ?_)
  · refine X_aloadn 0 d9 rfl ?_
    refine X_getI d10 fg_x12_197 ?_
    refine X_goto (t := 29) d13 rfl ?_
    exact X_ireturn d29 rfl rfl
  · refine X_iloadn 1 d16 rfl ?_
    refine X_iconst k_i_1 d17 ?_
    refine X_icmp_ne (t := 28) d18 rfl (fun h18 => ?_) (fun h18 => ?_)
    · refine X_aloadn 0 d21 rfl ?_
      refine X_getI d22 fg_x12_25 ?_
      refine X_goto (t := 29) d25 rfl ?_
      exact X_ireturn d29 rfl rfl
    · refine X_iconst k_i_m1 d28 ?_
      exact X_ireturn d29 rfl rfl

theorem dd12_four_b3 : AllD (ib i12_four) [(3, .iload_n 2, 1), (4, .ifCond .lt 35, 3), (7, .aload_n 0, 1), (8, .getfield 22, 3), (11, .aload_n 0, 1), (12, .getfield 142, 3), (15, .iload_n 1, 1), (16, .iload_n 2, 1), (17, .ishr, 1), (18, .sipush 255, 3), (21, .iand, 1), (22, .iastore, 1), (23, .aload_n 0, 1), (24, .dup, 1), (25, .getfield 142, 3), (28, .iconst 1, 1), (29, .iadd, 1), (30, .putfield 142, 3), (33, .iinc 2 (-8), 3), (36, .goto (-33), 3), (39, .return_, 1)] := allD_of (by decide +kernel)
def f12_four_b3_body (rc : MM → Nat → Int32 → Int32 → Option MM) (M : MM) (a0 : Nat) (a1 : Int32) (a2 : Int32) : Option MM :=
  if a2 < 0 then
    some M
  else
    aO M a0 12 <|
    aO M a0 12 <|
    aA M (mR M a0 6) 0 (mI M a0 7) <|
    bM (sI M (mR M a0 6) (mI M a0 7).toNatClampNeg ((a1 >>> (a2 &&& 31)) &&& (255 : Int32))) fun M22 =>
    aO M22 a0 12 <|
    aO M22 a0 12 <|
    bM (sI M22 a0 7 ((mI M22 a0 7) + (1 : Int32))) fun M30 =>
    rc M30 a0 a1 (a2 + (-8 : Int32))
def f12_four_b3 : MM → Nat → Int32 → Int32 → Option MM := LP4 (f12_four_b3_body) FU
set_option maxRecDepth 4000 in
theorem T12_four_b3 : ∀ (M : MM) (a0 : Nat) (a1 : Int32) (a2 : Int32), X Lv i12_four 3 [(0, vr a0), (1, vi a1), (2, vi a2)] [] M (f12_four_b3 M a0 a1 a2) := by
  obtain ⟨d3, d4, d7, d8, d11, d12, d15, d16, d17, d18, d21, d22, d23, d24, d25, d28, d29, d30, d33, d36, d39, -⟩ := dd12_four_b3
  refine LP4_i (P := fun M a0 a1 a2 o => X Lv i12_four 3 [(0, vr a0), (1, vi a1), (2, vi a2)] [] M o) (fun _ _ _ _ => X_none) (fun rc ih M a0 a1 a2 => ?_) FU
  unfold f12_four_b3_body
  refine X_iloadn 2 d3 rfl ?_
  refine X_if_lt (t := 39) d4 rfl (fun h4 => ?_) (fun h4 => ?_)
  · exact X_vreturn d39 rfl rfl
  · refine X_aloadn 0 d7 rfl ?_
    refine X_getR d8 fg_x12_22 ?_
    refine X_aloadn 0 d11 rfl ?_
    refine X_getI d12 fg_x12_142 ?_
    refine X_iloadn 1 d15 rfl ?_
    refine X_iloadn 2 d16 rfl ?_
    refine X_ishr d17 ?_
    refine X_sipush k_s_255 d18 ?_
    refine X_iand d21 ?_
    refine X_iastore d22 ?_
    refine X_bM fun M22 _ => ?_
    refine X_aloadn 0 d23 rfl ?_
    refine X_dupr d24 ?_
    refine X_getI d25 fg_x12_142 ?_
    refine X_iconst k_i_1 d28 ?_
    refine X_iadd d29 ?_
    refine X_putI d30 fp_x12_142 ?_
    refine X_bM fun M30 _ => ?_
    refine X_inc (lv' := [(2, vi (a2 + (-8 : Int32))), (0, vr a0), (1, vi a1)]) 2 d33 k_i_m8 rfl (by decide) rfl ?_
    refine X_goto (t := 3) d36 rfl ?_
    refine X_sub [1, 2, 0] rfl ?_
    exact ih M30 a0 a1 (a2 + (-8 : Int32))

theorem dd12_four : AllD (ib i12_four) [(0, .bipush 24, 2), (2, .istore_n 2, 1)] := allD_of (by decide +kernel)
def f12_four (M : MM) (a0 : Nat) (a1 : Int32) : Option MM :=
  f12_four_b3 M a0 a1 (24 : Int32)
set_option maxRecDepth 4000 in
theorem T12_four (M : MM) (a0 : Nat) (a1 : Int32) : ∀ q, f12_four M a0 a1 = some q → Run i12_four [vr a0, vi a1] M (Lv q) := by
  obtain ⟨d0, d2, -⟩ := dd12_four
  refine Run_of_X (by decide) (Nat.le_of_ble_eq_true rfl) ?_
  show X Lv i12_four 0 [(0, vr a0), (1, vi a1)] [] M _
  unfold f12_four
  refine X_bipush k_b_24 d0 ?_
  refine X_istoren (lv' := [(2, vi (24 : Int32)), (0, vr a0), (1, vi a1)]) d2 (by decide) rfl ?_
  refine X_sub [1, 2, 0] rfl ?_
  exact T12_four_b3 M a0 a1 (24 : Int32)

theorem dd12_feed : AllD (ib i12_feed) [(0, .aload_n 0, 1), (1, .iconst 0, 1), (2, .putfield 113, 3), (5, .aload_n 0, 1), (6, .getfield 142, 3), (9, .bipush 20, 2), (11, .iadd, 1), (12, .sipush 800, 3), (15, .if_icmp .le 5, 3), (18, .iconst (-1), 1), (19, .ireturn, 1), (20, .aload_n 0, 1), (21, .iload_n 1, 1), (22, .invokevirtual 145, 3), (25, .aload_n 0, 1), (26, .iload_n 2, 1), (27, .invokevirtual 145, 3), (30, .aload_n 0, 1), (31, .iload_n 3, 1), (32, .invokevirtual 145, 3), (35, .aload_n 0, 1), (36, .iload 4, 2), (38, .invokevirtual 145, 3), (41, .aload_n 0, 1), (42, .iload 5, 2), (44, .invokevirtual 145, 3), (47, .aload_n 0, 1), (48, .getfield 142, 3), (51, .ireturn, 1)] := allD_of (by decide +kernel)
def f12_feed (M : MM) (a0 : Nat) (a1 : Int32) (a2 : Int32) (a3 : Int32) (a4 : Int32) (a5 : Int32) : Option (Int32 × MM) :=
  aO M a0 12 <|
  bM (sI M a0 0 (0 : Int32)) fun M2 =>
  aO M2 a0 12 <|
  if ((mI M2 a0 7) + (20 : Int32)) ≤ (800 : Int32) then
    aO M2 a0 12 <|
    cV (f12_four M2 a0 a1) fun M22 =>
    aO M22 a0 12 <|
    cV (f12_four M22 a0 a2) fun M27 =>
    aO M27 a0 12 <|
    cV (f12_four M27 a0 a3) fun M32 =>
    aO M32 a0 12 <|
    cV (f12_four M32 a0 a4) fun M38 =>
    aO M38 a0 12 <|
    cV (f12_four M38 a0 a5) fun M44 =>
    aO M44 a0 12 <|
    some (mI M44 a0 7, M44)
  else
    some ((-1 : Int32), M2)
set_option maxRecDepth 4000 in
theorem T12_feed (M : MM) (a0 : Nat) (a1 : Int32) (a2 : Int32) (a3 : Int32) (a4 : Int32) (a5 : Int32) : ∀ q, f12_feed M a0 a1 a2 a3 a4 a5 = some q → Run i12_feed [vr a0, vi a1, vi a2, vi a3, vi a4, vi a5] M (Li q) := by
  obtain ⟨d0, d1, d2, d5, d6, d9, d11, d12, d15, d18, d19, d20, d21, d22, d25, d26, d27, d30, d31, d32, d35, d36, d38, d41, d42, d44, d47, d48, d51, -⟩ := dd12_feed
  refine Run_of_X (by decide) (Nat.le_of_ble_eq_true rfl) ?_
  show X Li i12_feed 0 [(0, vr a0), (1, vi a1), (2, vi a2), (3, vi a3), (4, vi a4), (5, vi a5)] [] M _
  unfold f12_feed
  refine X_aloadn 0 d0 rfl ?_
  refine X_iconst k_i_0 d1 ?_
  refine X_putI d2 fp_x12_113 ?_
  refine X_bM fun M2 _ => ?_
  refine X_aloadn 0 d5 rfl ?_
  refine X_getI d6 fg_x12_142 ?_
  refine X_bipush k_b_20 d9 ?_
  refine X_iadd d11 ?_
  refine X_sipush k_s_800 d12 ?_
  refine X_icmp_le (t := 20) d15 rfl (fun h15 => ?_) (fun h15 => ?_)
  · refine X_aloadn 0 d20 rfl ?_
    refine X_iloadn 1 d21 rfl ?_
    refine X_cVv (as := [vi a1]) d22 cv_x12_145 ⟨by decide, by decide⟩ rfl (Nat.le_of_ble_eq_true rfl) (T12_four M2 a0 a1) (fun M22 _ => ?_)
    refine X_aloadn 0 d25 rfl ?_
    refine X_iloadn 2 d26 rfl ?_
    refine X_cVv (as := [vi a2]) d27 cv_x12_145 ⟨by decide, by decide⟩ rfl (Nat.le_of_ble_eq_true rfl) (T12_four M22 a0 a2) (fun M27 _ => ?_)
    refine X_aloadn 0 d30 rfl ?_
    refine X_iloadn 3 d31 rfl ?_
    refine X_cVv (as := [vi a3]) d32 cv_x12_145 ⟨by decide, by decide⟩ rfl (Nat.le_of_ble_eq_true rfl) (T12_four M27 a0 a3) (fun M32 _ => ?_)
    refine X_aloadn 0 d35 rfl ?_
    refine X_iload 4 d36 rfl ?_
    refine X_cVv (as := [vi a4]) d38 cv_x12_145 ⟨by decide, by decide⟩ rfl (Nat.le_of_ble_eq_true rfl) (T12_four M32 a0 a4) (fun M38 _ => ?_)
    refine X_aloadn 0 d41 rfl ?_
    refine X_iload 5 d42 rfl ?_
    refine X_cVv (as := [vi a5]) d44 cv_x12_145 ⟨by decide, by decide⟩ rfl (Nat.le_of_ble_eq_true rfl) (T12_four M38 a0 a5) (fun M44 _ => ?_)
    refine X_aloadn 0 d47 rfl ?_
    refine X_getI d48 fg_x12_142 ?_
    exact X_ireturn d51 rfl rfl
  · refine X_iconst k_i_m1 d18 ?_
    exact X_ireturn d19 rfl rfl

theorem dd12_goal_b56 : AllD (ib i12_goal) [(56, .iload_n 2, 1), (57, .bipush 10, 2), (59, .if_icmp .ge 17, 3), (62, .aload_n 0, 1), (63, .getfield 19, 3), (66, .bipush 6, 2), (68, .iload_n 1, 1), (69, .imul, 1), (70, .iload_n 2, 1), (71, .iadd, 1), (72, .iaload, 1), (73, .goto 17, 3), (76, .aload_n 0, 1), (77, .getfield 19, 3), (80, .bipush 6, 2), (82, .iload_n 1, 1), (83, .imul, 1), (84, .iload_n 2, 1), (85, .iadd, 1), (86, .bipush 7, 2), (88, .isub, 1), (89, .iaload, 1), (90, .ireturn, 1)] := allD_of (by decide +kernel)
def f12_goal_b56 (M : MM) (a0 : Nat) (a1 : Int32) (a2 : Int32) : Option (Int32 × MM) :=
  if (10 : Int32) ≤ a2 then
    aO M a0 12 <|
    aA M (mR M a0 4) 0 ((((6 : Int32) * a1) + a2) - (7 : Int32)) <|
    some (mI M (mR M a0 4) ((((6 : Int32) * a1) + a2) - (7 : Int32)).toNatClampNeg, M)
  else
    aO M a0 12 <|
    aA M (mR M a0 4) 0 (((6 : Int32) * a1) + a2) <|
    some (mI M (mR M a0 4) (((6 : Int32) * a1) + a2).toNatClampNeg, M)
set_option maxRecDepth 4000 in
theorem T12_goal_b56 : ∀ (M : MM) (a0 : Nat) (a1 : Int32) (a2 : Int32), X Li i12_goal 56 [(0, vr a0), (1, vi a1), (2, vi a2)] [] M (f12_goal_b56 M a0 a1 a2) := by
  obtain ⟨d56, d57, d59, d62, d63, d66, d68, d69, d70, d71, d72, d73, d76, d77, d80, d82, d83, d84, d85, d86, d88, d89, d90, -⟩ := dd12_goal_b56
  intro M a0 a1 a2
  unfold f12_goal_b56
  refine X_iloadn 2 d56 rfl ?_
  refine X_bipush k_b_10 d57 ?_
  refine X_icmp_ge (t := 76) d59 rfl (fun h59 => ?_) (fun h59 => ?_)
  · refine X_aloadn 0 d76 rfl ?_
    refine X_getR d77 fg_x12_19 ?_
    refine X_bipush k_b_6 d80 ?_
    refine X_iloadn 1 d82 rfl ?_
    refine X_imul d83 ?_
    refine X_iloadn 2 d84 rfl ?_
    refine X_iadd d85 ?_
    refine X_bipush k_b_7 d86 ?_
    refine X_isub d88 ?_
    refine X_iaload d89 ?_
    exact X_ireturn d90 rfl rfl
  · refine X_aloadn 0 d62 rfl ?_
    refine X_getR d63 fg_x12_19 ?_
    refine X_bipush k_b_6 d66 ?_
    refine X_iloadn 1 d68 rfl ?_
    refine X_imul d69 ?_
    refine X_iloadn 2 d70 rfl ?_
    refine X_iadd d71 ?_
    refine X_iaload d72 ?_
    refine X_goto (t := 90) d73 rfl ?_
    exact X_ireturn d90 rfl rfl

theorem dd12_goal : AllD (ib i12_goal) [(0, .aload_n 0, 1), (1, .iconst 0, 1), (2, .putfield 113, 3), (5, .iload_n 1, 1), (6, .iconst 0, 1), (7, .aload_n 0, 1), (8, .getfield 7, 3), (11, .iconst 3, 1), (12, .iaload, 1), (13, .iconst 1, 1), (14, .isub, 1), (15, .invokestatic 124, 3), (18, .ifCond .eq 35, 3), (21, .iload_n 2, 1), (22, .iconst 0, 1), (23, .iconst 2, 1), (24, .invokestatic 124, 3), (27, .ifCond .ne 29, 3), (30, .iload_n 2, 1), (31, .bipush 10, 2), (33, .bipush 9, 2), (35, .aload_n 0, 1), (36, .getfield 19, 3), (39, .bipush 6, 2), (41, .iload_n 1, 1), (42, .imul, 1), (43, .iconst 1, 1), (44, .iadd, 1), (45, .iaload, 1), (46, .iadd, 1), (47, .invokestatic 124, 3), (50, .ifCond .ne 6, 3), (53, .bipush (-2), 2), (55, .ireturn, 1)] := allD_of (by decide +kernel)
def f12_goal (M : MM) (a0 : Nat) (a1 : Int32) (a2 : Int32) : Option (Int32 × MM) :=
  aO M a0 12 <|
  bM (sI M a0 0 (0 : Int32)) fun M2 =>
  aO M2 a0 12 <|
  aA M2 (mR M2 a0 1) 0 (3 : Int32) <|
  cI (f12_in M2 a1 (0 : Int32) ((mI M2 (mR M2 a0 1) (3 : Int32).toNatClampNeg) - (1 : Int32))) fun r15 M15 =>
  if r15 = 0 then
    some ((-2 : Int32), M15)
  else
    cI (f12_in M15 a2 (0 : Int32) (2 : Int32)) fun r24 M24 =>
    if r24 = 0 then
      aO M24 a0 12 <|
      aA M24 (mR M24 a0 4) 0 (((6 : Int32) * a1) + (1 : Int32)) <|
      cI (f12_in M24 a2 (10 : Int32) ((9 : Int32) + (mI M24 (mR M24 a0 4) (((6 : Int32) * a1) + (1 : Int32)).toNatClampNeg))) fun r47 M47 =>
      if r47 = 0 then
        some ((-2 : Int32), M47)
      else
        f12_goal_b56 M47 a0 a1 a2
    else
      f12_goal_b56 M24 a0 a1 a2
set_option maxRecDepth 4000 in
theorem T12_goal (M : MM) (a0 : Nat) (a1 : Int32) (a2 : Int32) : ∀ q, f12_goal M a0 a1 a2 = some q → Run i12_goal [vr a0, vi a1, vi a2] M (Li q) := by
  obtain ⟨d0, d1, d2, d5, d6, d7, d8, d11, d12, d13, d14, d15, d18, d21, d22, d23, d24, d27, d30, d31, d33, d35, d36, d39, d41, d42, d43, d44, d45, d46, d47, d50, d53, d55, -⟩ := dd12_goal
  refine Run_of_X (by decide) (Nat.le_of_ble_eq_true rfl) ?_
  show X Li i12_goal 0 [(0, vr a0), (1, vi a1), (2, vi a2)] [] M _
  unfold f12_goal
  refine X_aloadn 0 d0 rfl ?_
  refine X_iconst k_i_0 d1 ?_
  refine X_putI d2 fp_x12_113 ?_
  refine X_bM fun M2 _ => ?_
  refine X_iloadn 1 d5 rfl ?_
  refine X_iconst k_i_0 d6 ?_
  refine X_aloadn 0 d7 rfl ?_
  refine X_getR d8 fg_x12_7 ?_
  refine X_iconst k_i_3 d11 ?_
  refine X_iaload d12 ?_
  refine X_iconst k_i_1 d13 ?_
  refine X_isub d14 ?_
  refine X_cSi (as := [vi a1, vi (0 : Int32), vi ((mI M2 (mR M2 a0 1) (3 : Int32).toNatClampNeg) - (1 : Int32))]) d15 cs_x12_124 ⟨by decide, by decide⟩ rfl (Nat.le_of_ble_eq_true rfl) (T12_in M2 a1 (0 : Int32) ((mI M2 (mR M2 a0 1) (3 : Int32).toNatClampNeg) - (1 : Int32))) (fun r15 M15 _ => ?_)
  refine X_if_eq (t := 53) d18 rfl (fun h18 => ?_) (fun h18 => ?_)
  · refine X_bipush k_b_m2 d53 ?_
    exact X_ireturn d55 rfl rfl
  · refine X_iloadn 2 d21 rfl ?_
    refine X_iconst k_i_0 d22 ?_
    refine X_iconst k_i_2 d23 ?_
    refine X_cSi (as := [vi a2, vi (0 : Int32), vi (2 : Int32)]) d24 cs_x12_124 ⟨by decide, by decide⟩ rfl (Nat.le_of_ble_eq_true rfl) (T12_in M15 a2 (0 : Int32) (2 : Int32)) (fun r24 M24 _ => ?_)
    refine X_if_ne (t := 56) d27 rfl (fun h27 => ?_) (fun h27 => ?_)
    · refine X_iloadn 2 d30 rfl ?_
      refine X_bipush k_b_10 d31 ?_
      refine X_bipush k_b_9 d33 ?_
      refine X_aloadn 0 d35 rfl ?_
      refine X_getR d36 fg_x12_19 ?_
      refine X_bipush k_b_6 d39 ?_
      refine X_iloadn 1 d41 rfl ?_
      refine X_imul d42 ?_
      refine X_iconst k_i_1 d43 ?_
      refine X_iadd d44 ?_
      refine X_iaload d45 ?_
      refine X_iadd d46 ?_
      refine X_cSi (as := [vi a2, vi (10 : Int32), vi ((9 : Int32) + (mI M24 (mR M24 a0 4) (((6 : Int32) * a1) + (1 : Int32)).toNatClampNeg))]) d47 cs_x12_124 ⟨by decide, by decide⟩ rfl (Nat.le_of_ble_eq_true rfl) (T12_in M24 a2 (10 : Int32) ((9 : Int32) + (mI M24 (mR M24 a0 4) (((6 : Int32) * a1) + (1 : Int32)).toNatClampNeg))) (fun r47 M47 _ => ?_)
      refine X_if_ne (t := 56) d50 rfl (fun h50 => ?_) (fun h50 => ?_)
      · refine X_bipush k_b_m2 d53 ?_
        exact X_ireturn d55 rfl rfl
      · exact T12_goal_b56 M47 a0 a1 a2
    · exact T12_goal_b56 M24 a0 a1 a2

theorem dd12_setFor_b2 : AllD (ib i12_setFor) [(2, .iload_n 2, 1), (3, .aload_n 0, 1), (4, .getfield 407, 3), (7, .if_icmp .ge 21, 3), (10, .aload_n 0, 1), (11, .getfield 88, 3), (14, .iload_n 2, 1), (15, .iaload, 1), (16, .iload_n 1, 1), (17, .if_icmp .ne 5, 3), (20, .iload_n 2, 1), (21, .ireturn, 1), (22, .iinc 2 1, 3), (25, .goto (-23), 3), (28, .aload_n 0, 1), (29, .getfield 88, 3), (32, .aload_n 0, 1), (33, .getfield 407, 3), (36, .iload_n 1, 1), (37, .iastore, 1), (38, .aload_n 0, 1), (39, .dup, 1), (40, .getfield 407, 3), (43, .iconst 1, 1), (44, .iadd, 1), (45, .putfield 407, 3), (48, .aload_n 0, 1), (49, .getfield 407, 3), (52, .iconst 1, 1), (53, .isub, 1), (54, .ireturn, 1)] := allD_of (by decide +kernel)
def f12_setFor_b2_body (rc : MM → Nat → Int32 → Int32 → Option (Int32 × MM)) (M : MM) (a0 : Nat) (a1 : Int32) (a2 : Int32) : Option (Int32 × MM) :=
  aO M a0 12 <|
  if (mI M a0 47) ≤ a2 then
    aO M a0 12 <|
    aO M a0 12 <|
    aA M (mR M a0 43) 0 (mI M a0 47) <|
    bM (sI M (mR M a0 43) (mI M a0 47).toNatClampNeg a1) fun M37 =>
    aO M37 a0 12 <|
    aO M37 a0 12 <|
    bM (sI M37 a0 47 ((mI M37 a0 47) + (1 : Int32))) fun M45 =>
    aO M45 a0 12 <|
    some ((mI M45 a0 47) - (1 : Int32), M45)
  else
    aO M a0 12 <|
    aA M (mR M a0 43) 0 a2 <|
    if (mI M (mR M a0 43) a2.toNatClampNeg) = a1 then
      some (a2, M)
    else
      rc M a0 a1 (a2 + (1 : Int32))
def f12_setFor_b2 : MM → Nat → Int32 → Int32 → Option (Int32 × MM) := LP4 (f12_setFor_b2_body) FU
set_option maxRecDepth 4000 in
theorem T12_setFor_b2 : ∀ (M : MM) (a0 : Nat) (a1 : Int32) (a2 : Int32), X Li i12_setFor 2 [(0, vr a0), (1, vi a1), (2, vi a2)] [] M (f12_setFor_b2 M a0 a1 a2) := by
  obtain ⟨d2, d3, d4, d7, d10, d11, d14, d15, d16, d17, d20, d21, d22, d25, d28, d29, d32, d33, d36, d37, d38, d39, d40, d43, d44, d45, d48, d49, d52, d53, d54, -⟩ := dd12_setFor_b2
  refine LP4_i (P := fun M a0 a1 a2 o => X Li i12_setFor 2 [(0, vr a0), (1, vi a1), (2, vi a2)] [] M o) (fun _ _ _ _ => X_none) (fun rc ih M a0 a1 a2 => ?_) FU
  unfold f12_setFor_b2_body
  refine X_iloadn 2 d2 rfl ?_
  refine X_aloadn 0 d3 rfl ?_
  refine X_getI d4 fg_x12_407 ?_
  refine X_icmp_ge (t := 28) d7 rfl (fun h7 => ?_) (fun h7 => ?_)
  · refine X_aloadn 0 d28 rfl ?_
    refine X_getR d29 fg_x12_88 ?_
    refine X_aloadn 0 d32 rfl ?_
    refine X_getI d33 fg_x12_407 ?_
    refine X_iloadn 1 d36 rfl ?_
    refine X_iastore d37 ?_
    refine X_bM fun M37 _ => ?_
    refine X_aloadn 0 d38 rfl ?_
    refine X_dupr d39 ?_
    refine X_getI d40 fg_x12_407 ?_
    refine X_iconst k_i_1 d43 ?_
    refine X_iadd d44 ?_
    refine X_putI d45 fp_x12_407 ?_
    refine X_bM fun M45 _ => ?_
    refine X_aloadn 0 d48 rfl ?_
    refine X_getI d49 fg_x12_407 ?_
    refine X_iconst k_i_1 d52 ?_
    refine X_isub d53 ?_
    exact X_ireturn d54 rfl rfl
  · refine X_aloadn 0 d10 rfl ?_
    refine X_getR d11 fg_x12_88 ?_
    refine X_iloadn 2 d14 rfl ?_
    refine X_iaload d15 ?_
    refine X_iloadn 1 d16 rfl ?_
    refine X_icmp_ne (t := 22) d17 rfl (fun h17 => ?_) (fun h17 => ?_)
    · refine X_iloadn 2 d20 rfl ?_
      exact X_ireturn d21 rfl rfl
    · refine X_inc (lv' := [(2, vi (a2 + (1 : Int32))), (0, vr a0), (1, vi a1)]) 2 d22 k_i_1 rfl (by decide) rfl ?_
      refine X_goto (t := 2) d25 rfl ?_
      refine X_sub [1, 2, 0] rfl ?_
      exact ih M a0 a1 (a2 + (1 : Int32))

theorem dd12_setFor : AllD (ib i12_setFor) [(0, .iconst 0, 1), (1, .istore_n 2, 1)] := allD_of (by decide +kernel)
def f12_setFor (M : MM) (a0 : Nat) (a1 : Int32) : Option (Int32 × MM) :=
  f12_setFor_b2 M a0 a1 (0 : Int32)
set_option maxRecDepth 4000 in
theorem T12_setFor (M : MM) (a0 : Nat) (a1 : Int32) : ∀ q, f12_setFor M a0 a1 = some q → Run i12_setFor [vr a0, vi a1] M (Li q) := by
  obtain ⟨d0, d1, -⟩ := dd12_setFor
  refine Run_of_X (by decide) (Nat.le_of_ble_eq_true rfl) ?_
  show X Li i12_setFor 0 [(0, vr a0), (1, vi a1)] [] M _
  unfold f12_setFor
  refine X_iconst k_i_0 d0 ?_
  refine X_istoren (lv' := [(2, vi (0 : Int32)), (0, vr a0), (1, vi a1)]) d1 (by decide) rfl ?_
  refine X_sub [1, 2, 0] rfl ?_
  exact T12_setFor_b2 M a0 a1 (0 : Int32)

theorem dd12_setBehind_b53 : AllD (ib i12_setBehind) [(53, .ior, 1), (54, .istore_n 3, 1), (55, .goto 48, 3)] := allD_of (by decide +kernel)
def f12_setBehind_b53 (K103 : MM → Nat → Int32 → Int32 → Int32 → Int32 → Option (Int32 × MM)) (M : MM) (a0 : Nat) (a1 : Int32) (a2 : Int32) (a4 : Int32) (s0 : Int32) (s1 : Int32) : Option (Int32 × MM) :=
  bW (s1 ||| s0) fun v54 =>
  K103 M a0 a1 a2 v54 a4
set_option maxRecDepth 4000 in
theorem T12_setBehind_b53 {K103 : MM → Nat → Int32 → Int32 → Int32 → Int32 → Option (Int32 × MM)} (hK103 : ∀ (M : MM) (a0 : Nat) (a1 : Int32) (a2 : Int32) (a3 : Int32) (a4 : Int32), X Li i12_setBehind 103 [(0, vr a0), (1, vi a1), (2, vi a2), (3, vi a3), (4, vi a4)] [] M (K103 M a0 a1 a2 a3 a4)) : ∀ (M : MM) (a0 : Nat) (a1 : Int32) (a2 : Int32) (a4 : Int32) (s0 : Int32) (s1 : Int32), X Li i12_setBehind 53 [(0, vr a0), (1, vi a1), (2, vi a2), (4, vi a4)] [vi s0, vi s1] M (f12_setBehind_b53 K103 M a0 a1 a2 a4 s0 s1) := by
  obtain ⟨d53, d54, d55, -⟩ := dd12_setBehind_b53
  intro M a0 a1 a2 a4 s0 s1
  unfold f12_setBehind_b53
  refine X_ior d53 ?_
  refine X_bWi fun v54 _ => ?_
  refine X_istoren (lv' := [(3, vi v54), (0, vr a0), (1, vi a1), (2, vi a2), (4, vi a4)]) d54 (by decide) rfl ?_
  refine X_goto (t := 103) d55 rfl ?_
  refine X_sub [1, 2, 3, 0, 4] rfl ?_
  exact hK103 M a0 a1 a2 v54 a4

theorem dd12_setBehind_b95 : AllD (ib i12_setBehind) [(95, .ior, 1), (96, .istore_n 3, 1), (97, .iinc 5 1, 3), (100, .goto (-39), 3)] := allD_of (by decide +kernel)
def f12_setBehind_b95 (K61 : MM → Nat → Int32 → Int32 → Int32 → Int32 → Int32 → Option (Int32 × MM)) (M : MM) (a0 : Nat) (a1 : Int32) (a2 : Int32) (a4 : Int32) (a5 : Int32) (s0 : Int32) (s1 : Int32) : Option (Int32 × MM) :=
  bW (s1 ||| s0) fun v96 =>
  K61 M a0 a1 a2 v96 a4 (a5 + (1 : Int32))
set_option maxRecDepth 4000 in
theorem T12_setBehind_b95 {K61 : MM → Nat → Int32 → Int32 → Int32 → Int32 → Int32 → Option (Int32 × MM)} (hK61 : ∀ (M : MM) (a0 : Nat) (a1 : Int32) (a2 : Int32) (a3 : Int32) (a4 : Int32) (a5 : Int32), X Li i12_setBehind 61 [(0, vr a0), (1, vi a1), (2, vi a2), (3, vi a3), (4, vi a4), (5, vi a5)] [] M (K61 M a0 a1 a2 a3 a4 a5)) : ∀ (M : MM) (a0 : Nat) (a1 : Int32) (a2 : Int32) (a4 : Int32) (a5 : Int32) (s0 : Int32) (s1 : Int32), X Li i12_setBehind 95 [(0, vr a0), (1, vi a1), (2, vi a2), (4, vi a4), (5, vi a5)] [vi s0, vi s1] M (f12_setBehind_b95 K61 M a0 a1 a2 a4 a5 s0 s1) := by
  obtain ⟨d95, d96, d97, d100, -⟩ := dd12_setBehind_b95
  intro M a0 a1 a2 a4 a5 s0 s1
  unfold f12_setBehind_b95
  refine X_ior d95 ?_
  refine X_bWi fun v96 _ => ?_
  refine X_istoren (lv' := [(3, vi v96), (0, vr a0), (1, vi a1), (2, vi a2), (4, vi a4), (5, vi a5)]) d96 (by decide) rfl ?_
  refine X_inc (lv' := [(5, vi (a5 + (1 : Int32))), (3, vi v96), (0, vr a0), (1, vi a1), (2, vi a2), (4, vi a4)]) 5 d97 k_i_1 rfl (by decide) rfl ?_
  refine X_goto (t := 61) d100 rfl ?_
  refine X_sub [2, 3, 4, 1, 5, 0] rfl ?_
  exact hK61 M a0 a1 a2 v96 a4 (a5 + (1 : Int32))

theorem dd12_setBehind_b61 : AllD (ib i12_setBehind) [(61, .iload 5, 2), (63, .bipush 21, 2), (65, .if_icmp .ge 38, 3), (68, .iload_n 3, 1), (69, .aload_n 0, 1), (70, .aload_n 0, 1), (71, .getfield 50, 3), (74, .iload 4, 2), (76, .iload_n 2, 1), (77, .iload 5, 2), (79, .invokevirtual 299, 3), (82, .lconst 0, 1), (83, .lcmp, 1), (84, .ifCond .lt 10, 3), (87, .iconst 1, 1), (88, .iload 5, 2), (90, .ishl, 1), (91, .goto 4, 3), (94, .iconst 0, 1)] := allD_of (by decide +kernel)
def f12_setBehind_b61_body (K103 : MM → Nat → Int32 → Int32 → Int32 → Int32 → Option (Int32 × MM)) (rc : MM → Nat → Int32 → Int32 → Int32 → Int32 → Int32 → Option (Int32 × MM)) (M : MM) (a0 : Nat) (a1 : Int32) (a2 : Int32) (a3 : Int32) (a4 : Int32) (a5 : Int32) : Option (Int32 × MM) :=
  if (21 : Int32) ≤ a5 then
    K103 M a0 a1 a2 a3 a4
  else
    aO M a0 12 <|
    aO M a0 12 <|
    cJ (f12_costOf M a0 (mR M a0 28) a4 a2 a5) fun r79 M79 =>
    if r79 < (0 : Int64) then
      (f12_setBehind_b95 rc) M79 a0 a1 a2 a4 a5 (0 : Int32) a3
    else
      (f12_setBehind_b95 rc) M79 a0 a1 a2 a4 a5 ((1 : Int32) <<< (a5 &&& 31)) a3
def f12_setBehind_b61 (K103 : MM → Nat → Int32 → Int32 → Int32 → Int32 → Option (Int32 × MM)) : MM → Nat → Int32 → Int32 → Int32 → Int32 → Int32 → Option (Int32 × MM) := LP7 (f12_setBehind_b61_body K103) FU
set_option maxRecDepth 4000 in
theorem T12_setBehind_b61 {K103 : MM → Nat → Int32 → Int32 → Int32 → Int32 → Option (Int32 × MM)} (hK103 : ∀ (M : MM) (a0 : Nat) (a1 : Int32) (a2 : Int32) (a3 : Int32) (a4 : Int32), X Li i12_setBehind 103 [(0, vr a0), (1, vi a1), (2, vi a2), (3, vi a3), (4, vi a4)] [] M (K103 M a0 a1 a2 a3 a4)) : ∀ (M : MM) (a0 : Nat) (a1 : Int32) (a2 : Int32) (a3 : Int32) (a4 : Int32) (a5 : Int32), X Li i12_setBehind 61 [(0, vr a0), (1, vi a1), (2, vi a2), (3, vi a3), (4, vi a4), (5, vi a5)] [] M (f12_setBehind_b61 K103 M a0 a1 a2 a3 a4 a5) := by
  obtain ⟨d61, d63, d65, d68, d69, d70, d71, d74, d76, d77, d79, d82, d83, d84, d87, d88, d90, d91, d94, -⟩ := dd12_setBehind_b61
  refine LP7_i (P := fun M a0 a1 a2 a3 a4 a5 o => X Li i12_setBehind 61 [(0, vr a0), (1, vi a1), (2, vi a2), (3, vi a3), (4, vi a4), (5, vi a5)] [] M o) (fun _ _ _ _ _ _ _ => X_none) (fun rc ih M a0 a1 a2 a3 a4 a5 => ?_) FU
  unfold f12_setBehind_b61_body
  refine X_iload 5 d61 rfl ?_
  refine X_bipush k_b_21 d63 ?_
  refine X_icmp_ge (t := 103) d65 rfl (fun h65 => ?_) (fun h65 => ?_)
  · refine X_sub [0, 1, 2, 3, 4] rfl ?_
    exact hK103 M a0 a1 a2 a3 a4
  · refine X_iloadn 3 d68 rfl ?_
    refine X_aloadn 0 d69 rfl ?_
    refine X_aloadn 0 d70 rfl ?_
    refine X_getR d71 fg_x12_50 ?_
    refine X_iload 4 d74 rfl ?_
    refine X_iloadn 2 d76 rfl ?_
    refine X_iload 5 d77 rfl ?_
    refine X_cVl (as := [vr (mR M a0 28), vi a4, vi a2, vi a5]) d79 cv_x12_299 ⟨by decide, by decide⟩ rfl (Nat.le_of_ble_eq_true rfl) (T12_costOf M a0 (mR M a0 28) a4 a2 a5) (fun r79 M79 _ => ?_)
    refine X_lconst k_l_0 d82 ?_
    refine X_lif_lt (t := 94) d83 d84 rfl (fun h83 => ?_) (fun h83 => ?_)
    · refine X_iconst k_i_0 d94 ?_
      refine X_sub [0, 1, 2, 4, 5] rfl ?_
      exact (T12_setBehind_b95 ih) M79 a0 a1 a2 a4 a5 (0 : Int32) a3
    · refine X_iconst k_i_1 d87 ?_
      refine X_iload 5 d88 rfl ?_
      refine X_ishl d90 ?_
      refine X_goto (t := 95) d91 rfl ?_
      refine X_sub [0, 1, 2, 4, 5] rfl ?_
      exact (T12_setBehind_b95 ih) M79 a0 a1 a2 a4 a5 ((1 : Int32) <<< (a5 &&& 31)) a3

theorem dd12_setBehind_b103 : AllD (ib i12_setBehind) [(103, .iinc 4 1, 3), (106, .goto (-101), 3)] := allD_of (by decide +kernel)
def f12_setBehind_b103 (K5 : MM → Nat → Int32 → Int32 → Int32 → Int32 → Option (Int32 × MM)) (M : MM) (a0 : Nat) (a1 : Int32) (a2 : Int32) (a3 : Int32) (a4 : Int32) : Option (Int32 × MM) :=
  K5 M a0 a1 a2 a3 (a4 + (1 : Int32))
set_option maxRecDepth 4000 in
theorem T12_setBehind_b103 {K5 : MM → Nat → Int32 → Int32 → Int32 → Int32 → Option (Int32 × MM)} (hK5 : ∀ (M : MM) (a0 : Nat) (a1 : Int32) (a2 : Int32) (a3 : Int32) (a4 : Int32), X Li i12_setBehind 5 [(0, vr a0), (1, vi a1), (2, vi a2), (3, vi a3), (4, vi a4)] [] M (K5 M a0 a1 a2 a3 a4)) : ∀ (M : MM) (a0 : Nat) (a1 : Int32) (a2 : Int32) (a3 : Int32) (a4 : Int32), X Li i12_setBehind 103 [(0, vr a0), (1, vi a1), (2, vi a2), (3, vi a3), (4, vi a4)] [] M (f12_setBehind_b103 K5 M a0 a1 a2 a3 a4) := by
  obtain ⟨d103, d106, -⟩ := dd12_setBehind_b103
  intro M a0 a1 a2 a3 a4
  unfold f12_setBehind_b103
  refine X_inc (lv' := [(4, vi (a4 + (1 : Int32))), (0, vr a0), (1, vi a1), (2, vi a2), (3, vi a3)]) 4 d103 k_i_1 rfl (by decide) rfl ?_
  refine X_goto (t := 5) d106 rfl ?_
  refine X_sub [1, 2, 3, 4, 0] rfl ?_
  exact hK5 M a0 a1 a2 a3 (a4 + (1 : Int32))

theorem dd12_setBehind_b5 : AllD (ib i12_setBehind) [(5, .iload 4, 2), (7, .bipush 21, 2), (9, .if_icmp .ge 100, 3), (12, .iload_n 1, 1), (13, .iload 4, 2), (15, .invokestatic 134, 3), (18, .ifCond .ne 6, 3), (21, .goto 82, 3), (24, .iload 4, 2), (26, .iconst 5, 1), (27, .if_icmp .lt 31, 3), (30, .aload_n 0, 1), (31, .iload 4, 2), (33, .iload_n 2, 1), (34, .invokevirtual 306, 3), (37, .istore 5, 2), (39, .iload_n 3, 1), (40, .iload 5, 2), (42, .ifCond .ge 7, 3), (45, .iconst 0, 1), (46, .goto 7, 3), (49, .iconst 1, 1), (50, .iload 5, 2), (52, .ishl, 1), (58, .iconst 0, 1), (59, .istore 5, 2), (109, .iload_n 3, 1), (110, .ireturn, 1)] := allD_of (by decide +kernel)
def f12_setBehind_b5_body (rc : MM → Nat → Int32 → Int32 → Int32 → Int32 → Option (Int32 × MM)) (M : MM) (a0 : Nat) (a1 : Int32) (a2 : Int32) (a3 : Int32) (a4 : Int32) : Option (Int32 × MM) :=
  if (21 : Int32) ≤ a4 then
    some (a3, M)
  else
    cI (f12_isOf M a1 a4) fun r15 M15 =>
    if r15 = 0 then
      (f12_setBehind_b103 rc) M15 a0 a1 a2 a3 a4
    else
      if a4 < (5 : Int32) then
        (f12_setBehind_b61 (f12_setBehind_b103 rc)) M15 a0 a1 a2 a3 a4 (0 : Int32)
      else
        aO M15 a0 12 <|
        cI (f12_goesTo M15 a0 a4 a2) fun r34 M34 =>
        if 0 ≤ r34 then
          (f12_setBehind_b53 (f12_setBehind_b103 rc)) M34 a0 a1 a2 a4 ((1 : Int32) <<< (r34 &&& 31)) a3
        else
          (f12_setBehind_b53 (f12_setBehind_b103 rc)) M34 a0 a1 a2 a4 (0 : Int32) a3
def f12_setBehind_b5 : MM → Nat → Int32 → Int32 → Int32 → Int32 → Option (Int32 × MM) := LP6 (f12_setBehind_b5_body) FU
set_option maxRecDepth 4000 in
theorem T12_setBehind_b5 : ∀ (M : MM) (a0 : Nat) (a1 : Int32) (a2 : Int32) (a3 : Int32) (a4 : Int32), X Li i12_setBehind 5 [(0, vr a0), (1, vi a1), (2, vi a2), (3, vi a3), (4, vi a4)] [] M (f12_setBehind_b5 M a0 a1 a2 a3 a4) := by
  obtain ⟨d5, d7, d9, d12, d13, d15, d18, d21, d24, d26, d27, d30, d31, d33, d34, d37, d39, d40, d42, d45, d46, d49, d50, d52, d58, d59, d109, d110, -⟩ := dd12_setBehind_b5
  refine LP6_i (P := fun M a0 a1 a2 a3 a4 o => X Li i12_setBehind 5 [(0, vr a0), (1, vi a1), (2, vi a2), (3, vi a3), (4, vi a4)] [] M o) (fun _ _ _ _ _ _ => X_none) (fun rc ih M a0 a1 a2 a3 a4 => ?_) FU
  unfold f12_setBehind_b5_body
  refine X_iload 4 d5 rfl ?_
  refine X_bipush k_b_21 d7 ?_
  refine X_icmp_ge (t := 109) d9 rfl (fun h9 => ?_) (fun h9 => ?_)
  · refine X_iloadn 3 d109 rfl ?_
    exact X_ireturn d110 rfl rfl
  · refine X_iloadn 1 d12 rfl ?_
    refine X_iload 4 d13 rfl ?_
    refine X_cSi (as := [vi a1, vi a4]) d15 cs_x12_134 ⟨by decide, by decide⟩ rfl (Nat.le_of_ble_eq_true rfl) (T12_isOf M a1 a4) (fun r15 M15 _ => ?_)
    refine X_if_ne (t := 24) d18 rfl (fun h18 => ?_) (fun h18 => ?_)
    · refine X_goto (t := 103) d21 rfl ?_
      exact (T12_setBehind_b103 ih) M15 a0 a1 a2 a3 a4
    · refine X_iload 4 d24 rfl ?_
      refine X_iconst k_i_5 d26 ?_
      refine X_icmp_lt (t := 58) d27 rfl (fun h27 => ?_) (fun h27 => ?_)
      · refine X_iconst k_i_0 d58 ?_
        refine X_istore (lv' := [(5, vi (0 : Int32)), (0, vr a0), (1, vi a1), (2, vi a2), (3, vi a3), (4, vi a4)]) d59 (by decide) rfl ?_
        refine X_sub [1, 2, 3, 4, 5, 0] rfl ?_
        exact (T12_setBehind_b61 (T12_setBehind_b103 ih)) M15 a0 a1 a2 a3 a4 (0 : Int32)
      · refine X_aloadn 0 d30 rfl ?_
        refine X_iload 4 d31 rfl ?_
        refine X_iloadn 2 d33 rfl ?_
        refine X_cVi (as := [vi a4, vi a2]) d34 cv_x12_306 ⟨by decide, by decide⟩ rfl (Nat.le_of_ble_eq_true rfl) (T12_goesTo M15 a0 a4 a2) (fun r34 M34 _ => ?_)
        refine X_istore (lv' := [(5, vi r34), (0, vr a0), (1, vi a1), (2, vi a2), (3, vi a3), (4, vi a4)]) d37 (by decide) rfl ?_
        refine X_iloadn 4 d39 rfl ?_
        refine X_iload 0 d40 rfl ?_
        refine X_if_ge (t := 49) d42 rfl (fun h42 => ?_) (fun h42 => ?_)
        · refine X_iconst k_i_1 d49 ?_
          refine X_iload 0 d50 rfl ?_
          refine X_ishl d52 ?_
          refine X_sub [1, 2, 3, 5] rfl ?_
          exact (T12_setBehind_b53 (T12_setBehind_b103 ih)) M34 a0 a1 a2 a4 ((1 : Int32) <<< (r34 &&& 31)) a3
        · refine X_iconst k_i_0 d45 ?_
          refine X_goto (t := 53) d46 rfl ?_
          refine X_sub [1, 2, 3, 5] rfl ?_
          exact (T12_setBehind_b53 (T12_setBehind_b103 ih)) M34 a0 a1 a2 a4 (0 : Int32) a3

theorem dd12_setBehind : AllD (ib i12_setBehind) [(0, .iconst 0, 1), (1, .istore_n 3, 1), (2, .iconst 0, 1), (3, .istore 4, 2)] := allD_of (by decide +kernel)
def f12_setBehind (M : MM) (a0 : Nat) (a1 : Int32) (a2 : Int32) : Option (Int32 × MM) :=
  f12_setBehind_b5 M a0 a1 a2 (0 : Int32) (0 : Int32)
set_option maxRecDepth 4000 in
theorem T12_setBehind (M : MM) (a0 : Nat) (a1 : Int32) (a2 : Int32) : ∀ q, f12_setBehind M a0 a1 a2 = some q → Run i12_setBehind [vr a0, vi a1, vi a2] M (Li q) := by
  obtain ⟨d0, d1, d2, d3, -⟩ := dd12_setBehind
  refine Run_of_X (by decide) (Nat.le_of_ble_eq_true rfl) ?_
  show X Li i12_setBehind 0 [(0, vr a0), (1, vi a1), (2, vi a2)] [] M _
  unfold f12_setBehind
  refine X_iconst k_i_0 d0 ?_
  refine X_istoren (lv' := [(3, vi (0 : Int32)), (0, vr a0), (1, vi a1), (2, vi a2)]) d1 (by decide) rfl ?_
  refine X_iconst k_i_0 d2 ?_
  refine X_istore (lv' := [(4, vi (0 : Int32)), (3, vi (0 : Int32)), (0, vr a0), (1, vi a1), (2, vi a2)]) d3 (by decide) rfl ?_
  refine X_sub [2, 3, 4, 1, 0] rfl ?_
  exact T12_setBehind_b5 M a0 a1 a2 (0 : Int32) (0 : Int32)

theorem dd12_isGoodSet_b26 : AllD (ib i12_isGoodSet) [(26, .iinc 2 1, 3), (29, .goto (-27), 3)] := allD_of (by decide +kernel)
def f12_isGoodSet_b26 (K2 : MM → Nat → Int32 → Int32 → Option (Int32 × MM)) (M : MM) (a0 : Nat) (a1 : Int32) (a2 : Int32) : Option (Int32 × MM) :=
  K2 M a0 a1 (a2 + (1 : Int32))
set_option maxRecDepth 4000 in
theorem T12_isGoodSet_b26 {K2 : MM → Nat → Int32 → Int32 → Option (Int32 × MM)} (hK2 : ∀ (M : MM) (a0 : Nat) (a1 : Int32) (a2 : Int32), X Li i12_isGoodSet 2 [(0, vr a0), (1, vi a1), (2, vi a2)] [] M (K2 M a0 a1 a2)) : ∀ (M : MM) (a0 : Nat) (a1 : Int32) (a2 : Int32), X Li i12_isGoodSet 26 [(0, vr a0), (1, vi a1), (2, vi a2)] [] M (f12_isGoodSet_b26 K2 M a0 a1 a2) := by
  obtain ⟨d26, d29, -⟩ := dd12_isGoodSet_b26
  intro M a0 a1 a2
  unfold f12_isGoodSet_b26
  refine X_inc (lv' := [(2, vi (a2 + (1 : Int32))), (0, vr a0), (1, vi a1)]) 2 d26 k_i_1 rfl (by decide) rfl ?_
  refine X_goto (t := 2) d29 rfl ?_
  refine X_sub [1, 2, 0] rfl ?_
  exact hK2 M a0 a1 (a2 + (1 : Int32))

theorem dd12_isGoodSet_b2 : AllD (ib i12_isGoodSet) [(2, .iload_n 2, 1), (3, .bipush 21, 2), (5, .if_icmp .ge 27, 3), (8, .iload_n 1, 1), (9, .iload_n 2, 1), (10, .invokestatic 134, 3), (13, .ifCond .eq 13, 3), (16, .aload_n 0, 1), (17, .iload_n 2, 1), (18, .invokevirtual 316, 3), (21, .ifCond .eq 5, 3), (24, .iconst 1, 1), (25, .ireturn, 1), (32, .iconst 0, 1), (33, .ireturn, 1)] := allD_of (by decide +kernel)
def f12_isGoodSet_b2_body (rc : MM → Nat → Int32 → Int32 → Option (Int32 × MM)) (M : MM) (a0 : Nat) (a1 : Int32) (a2 : Int32) : Option (Int32 × MM) :=
  if (21 : Int32) ≤ a2 then
    some ((0 : Int32), M)
  else
    cI (f12_isOf M a1 a2) fun r10 M10 =>
    if r10 = 0 then
      (f12_isGoodSet_b26 rc) M10 a0 a1 a2
    else
      aO M10 a0 12 <|
      cI (f12_isEnd M10 a0 a2) fun r18 M18 =>
      if r18 = 0 then
        (f12_isGoodSet_b26 rc) M18 a0 a1 a2
      else
        some ((1 : Int32), M18)
def f12_isGoodSet_b2 : MM → Nat → Int32 → Int32 → Option (Int32 × MM) := LP4 (f12_isGoodSet_b2_body) FU
set_option maxRecDepth 4000 in
theorem T12_isGoodSet_b2 : ∀ (M : MM) (a0 : Nat) (a1 : Int32) (a2 : Int32), X Li i12_isGoodSet 2 [(0, vr a0), (1, vi a1), (2, vi a2)] [] M (f12_isGoodSet_b2 M a0 a1 a2) := by
  obtain ⟨d2, d3, d5, d8, d9, d10, d13, d16, d17, d18, d21, d24, d25, d32, d33, -⟩ := dd12_isGoodSet_b2
  refine LP4_i (P := fun M a0 a1 a2 o => X Li i12_isGoodSet 2 [(0, vr a0), (1, vi a1), (2, vi a2)] [] M o) (fun _ _ _ _ => X_none) (fun rc ih M a0 a1 a2 => ?_) FU
  unfold f12_isGoodSet_b2_body
  refine X_iloadn 2 d2 rfl ?_
  refine X_bipush k_b_21 d3 ?_
  refine X_icmp_ge (t := 32) d5 rfl (fun h5 => ?_) (fun h5 => ?_)
  · refine X_iconst k_i_0 d32 ?_
    exact X_zreturnc d33 rfl (by decide) rfl
  · refine X_iloadn 1 d8 rfl ?_
    refine X_iloadn 2 d9 rfl ?_
    refine X_cSi (as := [vi a1, vi a2]) d10 cs_x12_134 ⟨by decide, by decide⟩ rfl (Nat.le_of_ble_eq_true rfl) (T12_isOf M a1 a2) (fun r10 M10 _ => ?_)
    refine X_if_eq (t := 26) d13 rfl (fun h13 => ?_) (fun h13 => ?_)
    · exact (T12_isGoodSet_b26 ih) M10 a0 a1 a2
    · refine X_aloadn 0 d16 rfl ?_
      refine X_iloadn 2 d17 rfl ?_
      refine X_cVi (as := [vi a2]) d18 cv_x12_316 ⟨by decide, by decide⟩ rfl (Nat.le_of_ble_eq_true rfl) (T12_isEnd M10 a0 a2) (fun r18 M18 _ => ?_)
      refine X_if_eq (t := 26) d21 rfl (fun h21 => ?_) (fun h21 => ?_)
      · exact (T12_isGoodSet_b26 ih) M18 a0 a1 a2
      · refine X_iconst k_i_1 d24 ?_
        exact X_zreturnc d25 rfl (by decide) rfl

theorem dd12_isGoodSet : AllD (ib i12_isGoodSet) [(0, .iconst 0, 1), (1, .istore_n 2, 1)] := allD_of (by decide +kernel)
def f12_isGoodSet (M : MM) (a0 : Nat) (a1 : Int32) : Option (Int32 × MM) :=
  f12_isGoodSet_b2 M a0 a1 (0 : Int32)
set_option maxRecDepth 4000 in
theorem T12_isGoodSet (M : MM) (a0 : Nat) (a1 : Int32) : ∀ q, f12_isGoodSet M a0 a1 = some q → Run i12_isGoodSet [vr a0, vi a1] M (Li q) := by
  obtain ⟨d0, d1, -⟩ := dd12_isGoodSet
  refine Run_of_X (by decide) (Nat.le_of_ble_eq_true rfl) ?_
  show X Li i12_isGoodSet 0 [(0, vr a0), (1, vi a1)] [] M _
  unfold f12_isGoodSet
  refine X_iconst k_i_0 d0 ?_
  refine X_istoren (lv' := [(2, vi (0 : Int32)), (0, vr a0), (1, vi a1)]) d1 (by decide) rfl ?_
  refine X_sub [1, 2, 0] rfl ?_
  exact T12_isGoodSet_b2 M a0 a1 (0 : Int32)

theorem dd12_laysParts_b76 : AllD (ib i12_laysParts) [(76, .iadd, 1), (77, .putfield 416, 3), (80, .iinc 1 1, 3), (83, .goto (-76), 3)] := allD_of (by decide +kernel)
def f12_laysParts_b76 (K7 : MM → Nat → Int32 → Option MM) (M : MM) (a0 : Nat) (a1 : Int32) (s0 : Int32) (s1 : Int32) (s2 : Nat) : Option MM :=
  aO M s2 12 <|
  bM (sI M s2 48 (s1 + s0)) fun M77 =>
  K7 M77 a0 (a1 + (1 : Int32))
set_option maxRecDepth 4000 in
theorem T12_laysParts_b76 {K7 : MM → Nat → Int32 → Option MM} (hK7 : ∀ (M : MM) (a0 : Nat) (a1 : Int32), X Lv i12_laysParts 7 [(0, vr a0), (1, vi a1)] [] M (K7 M a0 a1)) : ∀ (M : MM) (a0 : Nat) (a1 : Int32) (s0 : Int32) (s1 : Int32) (s2 : Nat), X Lv i12_laysParts 76 [(0, vr a0), (1, vi a1)] [vi s0, vi s1, vr s2] M (f12_laysParts_b76 K7 M a0 a1 s0 s1 s2) := by
  obtain ⟨d76, d77, d80, d83, -⟩ := dd12_laysParts_b76
  intro M a0 a1 s0 s1 s2
  unfold f12_laysParts_b76
  refine X_iadd d76 ?_
  refine X_putI d77 fp_x12_416 ?_
  refine X_bM fun M77 _ => ?_
  refine X_inc (lv' := [(1, vi (a1 + (1 : Int32))), (0, vr a0)]) 1 d80 k_i_1 rfl (by decide) rfl ?_
  refine X_goto (t := 7) d83 rfl ?_
  refine X_sub [1, 0] rfl ?_
  exact hK7 M77 a0 (a1 + (1 : Int32))

theorem dd12_laysParts_b60 : AllD (ib i12_laysParts) [(60, .iastore, 1), (61, .aload_n 0, 1), (62, .dup, 1), (63, .getfield 416, 3), (66, .iload_n 2, 1), (67, .iload_n 1, 1), (68, .if_icmp .ne 7, 3), (71, .iconst 1, 1), (72, .goto 4, 3), (75, .iconst 0, 1)] := allD_of (by decide +kernel)
def f12_laysParts_b60 (K7 : MM → Nat → Int32 → Option MM) (M : MM) (a0 : Nat) (a1 : Int32) (a2 : Int32) (s0 : Int32) (s1 : Int32) (s2 : Nat) : Option MM :=
  aA M s2 0 s1 <|
  bM (sI M s2 s1.toNatClampNeg s0) fun M60 =>
  aO M60 a0 12 <|
  if a2 = a1 then
    (f12_laysParts_b76 K7) M60 a0 a1 (1 : Int32) (mI M60 a0 48) a0
  else
    (f12_laysParts_b76 K7) M60 a0 a1 (0 : Int32) (mI M60 a0 48) a0
set_option maxRecDepth 4000 in
theorem T12_laysParts_b60 {K7 : MM → Nat → Int32 → Option MM} (hK7 : ∀ (M : MM) (a0 : Nat) (a1 : Int32), X Lv i12_laysParts 7 [(0, vr a0), (1, vi a1)] [] M (K7 M a0 a1)) : ∀ (M : MM) (a0 : Nat) (a1 : Int32) (a2 : Int32) (s0 : Int32) (s1 : Int32) (s2 : Nat), X Lv i12_laysParts 60 [(0, vr a0), (1, vi a1), (2, vi a2)] [vi s0, vi s1, vr s2] M (f12_laysParts_b60 K7 M a0 a1 a2 s0 s1 s2) := by
  obtain ⟨d60, d61, d62, d63, d66, d67, d68, d71, d72, d75, -⟩ := dd12_laysParts_b60
  intro M a0 a1 a2 s0 s1 s2
  unfold f12_laysParts_b60
  refine X_iastore d60 ?_
  refine X_bM fun M60 _ => ?_
  refine X_aloadn 0 d61 rfl ?_
  refine X_dupr d62 ?_
  refine X_getI d63 fg_x12_416 ?_
  refine X_iloadn 2 d66 rfl ?_
  refine X_iloadn 1 d67 rfl ?_
  refine X_icmp_ne (t := 75) d68 rfl (fun h68 => ?_) (fun h68 => ?_)
  · refine X_iconst k_i_1 d71 ?_
    refine X_goto (t := 76) d72 rfl ?_
    refine X_sub [0, 1] rfl ?_
    exact (T12_laysParts_b76 hK7) M60 a0 a1 (1 : Int32) (mI M60 a0 48) a0
  · refine X_iconst k_i_0 d75 ?_
    refine X_sub [0, 1] rfl ?_
    exact (T12_laysParts_b76 hK7) M60 a0 a1 (0 : Int32) (mI M60 a0 48) a0

theorem dd12_laysParts_b37 : AllD (ib i12_laysParts) [(37, .aload_n 0, 1), (38, .getfield 98, 3), (41, .iload_n 1, 1), (42, .iload_n 2, 1), (43, .iload_n 1, 1), (44, .if_icmp .ge 12, 3), (47, .aload_n 0, 1), (48, .getfield 98, 3), (51, .iload_n 2, 1), (52, .iaload, 1), (53, .goto 7, 3), (56, .aload_n 0, 1), (57, .getfield 416, 3)] := allD_of (by decide +kernel)
def f12_laysParts_b37 (K7 : MM → Nat → Int32 → Option MM) (M : MM) (a0 : Nat) (a1 : Int32) (a2 : Int32) : Option MM :=
  aO M a0 12 <|
  if a1 ≤ a2 then
    aO M a0 12 <|
    (f12_laysParts_b60 K7) M a0 a1 a2 (mI M a0 48) a1 (mR M a0 46)
  else
    aO M a0 12 <|
    aA M (mR M a0 46) 0 a2 <|
    (f12_laysParts_b60 K7) M a0 a1 a2 (mI M (mR M a0 46) a2.toNatClampNeg) a1 (mR M a0 46)
set_option maxRecDepth 4000 in
theorem T12_laysParts_b37 {K7 : MM → Nat → Int32 → Option MM} (hK7 : ∀ (M : MM) (a0 : Nat) (a1 : Int32), X Lv i12_laysParts 7 [(0, vr a0), (1, vi a1)] [] M (K7 M a0 a1)) : ∀ (M : MM) (a0 : Nat) (a1 : Int32) (a2 : Int32), X Lv i12_laysParts 37 [(0, vr a0), (1, vi a1), (2, vi a2)] [] M (f12_laysParts_b37 K7 M a0 a1 a2) := by
  obtain ⟨d37, d38, d41, d42, d43, d44, d47, d48, d51, d52, d53, d56, d57, -⟩ := dd12_laysParts_b37
  intro M a0 a1 a2
  unfold f12_laysParts_b37
  refine X_aloadn 0 d37 rfl ?_
  refine X_getR d38 fg_x12_98 ?_
  refine X_iloadn 1 d41 rfl ?_
  refine X_iloadn 2 d42 rfl ?_
  refine X_iloadn 1 d43 rfl ?_
  refine X_icmp_ge (t := 56) d44 rfl (fun h44 => ?_) (fun h44 => ?_)
  · refine X_aloadn 0 d56 rfl ?_
    refine X_getI d57 fg_x12_416 ?_
    exact (T12_laysParts_b60 hK7) M a0 a1 a2 (mI M a0 48) a1 (mR M a0 46)
  · refine X_aloadn 0 d47 rfl ?_
    refine X_getR d48 fg_x12_98 ?_
    refine X_iloadn 2 d51 rfl ?_
    refine X_iaload d52 ?_
    refine X_goto (t := 60) d53 rfl ?_
    exact (T12_laysParts_b60 hK7) M a0 a1 a2 (mI M (mR M a0 46) a2.toNatClampNeg) a1 (mR M a0 46)

theorem dd12_laysParts_b17 : AllD (ib i12_laysParts) [(17, .iload_n 2, 1), (18, .iload_n 1, 1), (19, .if_icmp .ge 18, 3), (22, .aload_n 0, 1), (23, .iload_n 2, 1), (24, .iload_n 1, 1), (25, .invokevirtual 425, 3), (28, .ifCond .ne 9, 3), (31, .iinc 2 1, 3), (34, .goto (-17), 3)] := allD_of (by decide +kernel)
def f12_laysParts_b17_body (K7 : MM → Nat → Int32 → Option MM) (rc : MM → Nat → Int32 → Int32 → Option MM) (M : MM) (a0 : Nat) (a1 : Int32) (a2 : Int32) : Option MM :=
  if a1 ≤ a2 then
    (f12_laysParts_b37 K7) M a0 a1 a2
  else
    aO M a0 12 <|
    cI (f12_areAlike M a0 a2 a1) fun r25 M25 =>
    if r25 = 0 then
      rc M25 a0 a1 (a2 + (1 : Int32))
    else
      (f12_laysParts_b37 K7) M25 a0 a1 a2
def f12_laysParts_b17 (K7 : MM → Nat → Int32 → Option MM) : MM → Nat → Int32 → Int32 → Option MM := LP4 (f12_laysParts_b17_body K7) FU
set_option maxRecDepth 4000 in
theorem T12_laysParts_b17 {K7 : MM → Nat → Int32 → Option MM} (hK7 : ∀ (M : MM) (a0 : Nat) (a1 : Int32), X Lv i12_laysParts 7 [(0, vr a0), (1, vi a1)] [] M (K7 M a0 a1)) : ∀ (M : MM) (a0 : Nat) (a1 : Int32) (a2 : Int32), X Lv i12_laysParts 17 [(0, vr a0), (1, vi a1), (2, vi a2)] [] M (f12_laysParts_b17 K7 M a0 a1 a2) := by
  obtain ⟨d17, d18, d19, d22, d23, d24, d25, d28, d31, d34, -⟩ := dd12_laysParts_b17
  refine LP4_i (P := fun M a0 a1 a2 o => X Lv i12_laysParts 17 [(0, vr a0), (1, vi a1), (2, vi a2)] [] M o) (fun _ _ _ _ => X_none) (fun rc ih M a0 a1 a2 => ?_) FU
  unfold f12_laysParts_b17_body
  refine X_iloadn 2 d17 rfl ?_
  refine X_iloadn 1 d18 rfl ?_
  refine X_icmp_ge (t := 37) d19 rfl (fun h19 => ?_) (fun h19 => ?_)
  · exact (T12_laysParts_b37 hK7) M a0 a1 a2
  · refine X_aloadn 0 d22 rfl ?_
    refine X_iloadn 2 d23 rfl ?_
    refine X_iloadn 1 d24 rfl ?_
    refine X_cVi (as := [vi a2, vi a1]) d25 cv_x12_425 ⟨by decide, by decide⟩ rfl (Nat.le_of_ble_eq_true rfl) (T12_areAlike M a0 a2 a1) (fun r25 M25 _ => ?_)
    refine X_if_ne (t := 37) d28 rfl (fun h28 => ?_) (fun h28 => ?_)
    · refine X_inc (lv' := [(2, vi (a2 + (1 : Int32))), (0, vr a0), (1, vi a1)]) 2 d31 k_i_1 rfl (by decide) rfl ?_
      refine X_goto (t := 17) d34 rfl ?_
      refine X_sub [1, 2, 0] rfl ?_
      exact ih M25 a0 a1 (a2 + (1 : Int32))
    · exact (T12_laysParts_b37 hK7) M25 a0 a1 a2

theorem dd12_laysParts_b88 : AllD (ib i12_laysParts) [(88, .iload_n 1, 1), (89, .aload_n 0, 1), (90, .getfield 407, 3), (93, .if_icmp .ge 21, 3), (96, .aload_n 0, 1), (97, .getfield 95, 3), (100, .iload_n 1, 1), (101, .aload_n 0, 1), (102, .getfield 98, 3), (105, .iload_n 1, 1), (106, .iaload, 1), (107, .iastore, 1), (108, .iinc 1 1, 3), (111, .goto (-23), 3), (114, .return_, 1)] := allD_of (by decide +kernel)
def f12_laysParts_b88_body (rc : MM → Nat → Int32 → Option MM) (M : MM) (a0 : Nat) (a1 : Int32) : Option MM :=
  aO M a0 12 <|
  if (mI M a0 47) ≤ a1 then
    some M
  else
    aO M a0 12 <|
    aO M a0 12 <|
    aA M (mR M a0 46) 0 a1 <|
    aA M (mR M a0 45) 0 a1 <|
    bM (sI M (mR M a0 45) a1.toNatClampNeg (mI M (mR M a0 46) a1.toNatClampNeg)) fun M107 =>
    rc M107 a0 (a1 + (1 : Int32))
def f12_laysParts_b88 : MM → Nat → Int32 → Option MM := LP3 (f12_laysParts_b88_body) FU
set_option maxRecDepth 4000 in
theorem T12_laysParts_b88 : ∀ (M : MM) (a0 : Nat) (a1 : Int32), X Lv i12_laysParts 88 [(0, vr a0), (1, vi a1)] [] M (f12_laysParts_b88 M a0 a1) := by
  obtain ⟨d88, d89, d90, d93, d96, d97, d100, d101, d102, d105, d106, d107, d108, d111, d114, -⟩ := dd12_laysParts_b88
  refine LP3_i (P := fun M a0 a1 o => X Lv i12_laysParts 88 [(0, vr a0), (1, vi a1)] [] M o) (fun _ _ _ => X_none) (fun rc ih M a0 a1 => ?_) FU
  unfold f12_laysParts_b88_body
  refine X_iloadn 1 d88 rfl ?_
  refine X_aloadn 0 d89 rfl ?_
  refine X_getI d90 fg_x12_407 ?_
  refine X_icmp_ge (t := 114) d93 rfl (fun h93 => ?_) (fun h93 => ?_)
  · exact X_vreturn d114 rfl rfl
  · refine X_aloadn 0 d96 rfl ?_
    refine X_getR d97 fg_x12_95 ?_
    refine X_iloadn 1 d100 rfl ?_
    refine X_aloadn 0 d101 rfl ?_
    refine X_getR d102 fg_x12_98 ?_
    refine X_iloadn 1 d105 rfl ?_
    refine X_iaload d106 ?_
    refine X_iastore d107 ?_
    refine X_bM fun M107 _ => ?_
    refine X_inc (lv' := [(1, vi (a1 + (1 : Int32))), (0, vr a0)]) 1 d108 k_i_1 rfl (by decide) rfl ?_
    refine X_goto (t := 88) d111 rfl ?_
    refine X_sub [1, 0] rfl ?_
    exact ih M107 a0 (a1 + (1 : Int32))

theorem dd12_laysParts_b7 : AllD (ib i12_laysParts) [(7, .iload_n 1, 1), (8, .aload_n 0, 1), (9, .getfield 407, 3), (12, .if_icmp .ge 74, 3), (15, .iconst 0, 1), (16, .istore_n 2, 1), (86, .iconst 0, 1), (87, .istore_n 1, 1)] := allD_of (by decide +kernel)
def f12_laysParts_b7_body (rc : MM → Nat → Int32 → Option MM) (M : MM) (a0 : Nat) (a1 : Int32) : Option MM :=
  aO M a0 12 <|
  if (mI M a0 47) ≤ a1 then
    f12_laysParts_b88 M a0 (0 : Int32)
  else
    (f12_laysParts_b17 rc) M a0 a1 (0 : Int32)
def f12_laysParts_b7 : MM → Nat → Int32 → Option MM := LP3 (f12_laysParts_b7_body) FU
set_option maxRecDepth 4000 in
theorem T12_laysParts_b7 : ∀ (M : MM) (a0 : Nat) (a1 : Int32), X Lv i12_laysParts 7 [(0, vr a0), (1, vi a1)] [] M (f12_laysParts_b7 M a0 a1) := by
  obtain ⟨d7, d8, d9, d12, d15, d16, d86, d87, -⟩ := dd12_laysParts_b7
  refine LP3_i (P := fun M a0 a1 o => X Lv i12_laysParts 7 [(0, vr a0), (1, vi a1)] [] M o) (fun _ _ _ => X_none) (fun rc ih M a0 a1 => ?_) FU
  unfold f12_laysParts_b7_body
  refine X_iloadn 1 d7 rfl ?_
  refine X_aloadn 0 d8 rfl ?_
  refine X_getI d9 fg_x12_407 ?_
  refine X_icmp_ge (t := 86) d12 rfl (fun h12 => ?_) (fun h12 => ?_)
  · refine X_iconst k_i_0 d86 ?_
    refine X_istoren (lv' := [(1, vi (0 : Int32)), (0, vr a0)]) d87 (by decide) rfl ?_
    refine X_sub [1, 0] rfl ?_
    exact T12_laysParts_b88 M a0 (0 : Int32)
  · refine X_iconst k_i_0 d15 ?_
    refine X_istoren (lv' := [(2, vi (0 : Int32)), (0, vr a0), (1, vi a1)]) d16 (by decide) rfl ?_
    refine X_sub [1, 2, 0] rfl ?_
    exact (T12_laysParts_b17 ih) M a0 a1 (0 : Int32)

theorem dd12_laysParts : AllD (ib i12_laysParts) [(0, .aload_n 0, 1), (1, .iconst 0, 1), (2, .putfield 416, 3), (5, .iconst 0, 1), (6, .istore_n 1, 1)] := allD_of (by decide +kernel)
def f12_laysParts (M : MM) (a0 : Nat) : Option MM :=
  aO M a0 12 <|
  bM (sI M a0 48 (0 : Int32)) fun M2 =>
  f12_laysParts_b7 M2 a0 (0 : Int32)
set_option maxRecDepth 4000 in
theorem T12_laysParts (M : MM) (a0 : Nat) : ∀ q, f12_laysParts M a0 = some q → Run i12_laysParts [vr a0] M (Lv q) := by
  obtain ⟨d0, d1, d2, d5, d6, -⟩ := dd12_laysParts
  refine Run_of_X (by decide) (Nat.le_of_ble_eq_true rfl) ?_
  show X Lv i12_laysParts 0 [(0, vr a0)] [] M _
  unfold f12_laysParts
  refine X_aloadn 0 d0 rfl ?_
  refine X_iconst k_i_0 d1 ?_
  refine X_putI d2 fp_x12_416 ?_
  refine X_bM fun M2 _ => ?_
  refine X_iconst k_i_0 d5 ?_
  refine X_istoren (lv' := [(1, vi (0 : Int32)), (0, vr a0)]) d6 (by decide) rfl ?_
  refine X_sub [1, 0] rfl ?_
  exact T12_laysParts_b7 M2 a0 (0 : Int32)

theorem dd12_layMachines_b58 : AllD (ib i12_layMachines) [(58, .iload_n 2, 1), (59, .aload_n 0, 1), (60, .invokevirtual 128, 3), (63, .if_icmp .ge 35, 3), (66, .aload_n 0, 1), (67, .getfield 92, 3), (70, .bipush 6, 2), (72, .iload_n 1, 1), (73, .imul, 1), (74, .iload_n 2, 1), (75, .iadd, 1), (76, .aload_n 0, 1), (77, .aload_n 0, 1), (78, .aload_n 0, 1), (79, .getfield 88, 3), (82, .iload_n 1, 1), (83, .iaload, 1), (84, .iload_n 2, 1), (85, .invokevirtual 413, 3), (88, .invokevirtual 410, 3), (91, .iastore, 1), (92, .iinc 2 1, 3), (95, .goto (-37), 3), (98, .iinc 1 1, 3), (101, .goto (-53), 3)] := allD_of (by decide +kernel)
def f12_layMachines_b58_body (K48 : MM → Nat → Int32 → Option MM) (rc : MM → Nat → Int32 → Int32 → Option MM) (M : MM) (a0 : Nat) (a1 : Int32) (a2 : Int32) : Option MM :=
  aO M a0 12 <|
  cI (f12_signs M a0) fun r60 M60 =>
  if r60 ≤ a2 then
    K48 M60 a0 (a1 + (1 : Int32))
  else
    aO M60 a0 12 <|
    aO M60 a0 12 <|
    aA M60 (mR M60 a0 43) 0 a1 <|
    aO M60 a0 12 <|
    cI (f12_setBehind M60 a0 (mI M60 (mR M60 a0 43) a1.toNatClampNeg) a2) fun r85 M85 =>
    aO M85 a0 12 <|
    cI (f12_setFor M85 a0 r85) fun r88 M88 =>
    aA M88 (mR M60 a0 44) 0 (((6 : Int32) * a1) + a2) <|
    bM (sI M88 (mR M60 a0 44) (((6 : Int32) * a1) + a2).toNatClampNeg r88) fun M91 =>
    rc M91 a0 a1 (a2 + (1 : Int32))
def f12_layMachines_b58 (K48 : MM → Nat → Int32 → Option MM) : MM → Nat → Int32 → Int32 → Option MM := LP4 (f12_layMachines_b58_body K48) FU
set_option maxRecDepth 4000 in
theorem T12_layMachines_b58 {K48 : MM → Nat → Int32 → Option MM} (hK48 : ∀ (M : MM) (a0 : Nat) (a1 : Int32), X Lv i12_layMachines 48 [(0, vr a0), (1, vi a1)] [] M (K48 M a0 a1)) : ∀ (M : MM) (a0 : Nat) (a1 : Int32) (a2 : Int32), X Lv i12_layMachines 58 [(0, vr a0), (1, vi a1), (2, vi a2)] [] M (f12_layMachines_b58 K48 M a0 a1 a2) := by
  obtain ⟨d58, d59, d60, d63, d66, d67, d70, d72, d73, d74, d75, d76, d77, d78, d79, d82, d83, d84, d85, d88, d91, d92, d95, d98, d101, -⟩ := dd12_layMachines_b58
  refine LP4_i (P := fun M a0 a1 a2 o => X Lv i12_layMachines 58 [(0, vr a0), (1, vi a1), (2, vi a2)] [] M o) (fun _ _ _ _ => X_none) (fun rc ih M a0 a1 a2 => ?_) FU
  unfold f12_layMachines_b58_body
  refine X_iloadn 2 d58 rfl ?_
  refine X_aloadn 0 d59 rfl ?_
  refine X_cVi (as := []) d60 cv_x12_128 ⟨by decide, by decide⟩ rfl (Nat.le_of_ble_eq_true rfl) (T12_signs M a0) (fun r60 M60 _ => ?_)
  refine X_icmp_ge (t := 98) d63 rfl (fun h63 => ?_) (fun h63 => ?_)
  · refine X_inc (lv' := [(1, vi (a1 + (1 : Int32))), (0, vr a0), (2, vi a2)]) 1 d98 k_i_1 rfl (by decide) rfl ?_
    refine X_goto (t := 48) d101 rfl ?_
    refine X_sub [1, 0] rfl ?_
    exact hK48 M60 a0 (a1 + (1 : Int32))
  · refine X_aloadn 0 d66 rfl ?_
    refine X_getR d67 fg_x12_92 ?_
    refine X_bipush k_b_6 d70 ?_
    refine X_iloadn 1 d72 rfl ?_
    refine X_imul d73 ?_
    refine X_iloadn 2 d74 rfl ?_
    refine X_iadd d75 ?_
    refine X_aloadn 0 d76 rfl ?_
    refine X_aloadn 0 d77 rfl ?_
    refine X_aloadn 0 d78 rfl ?_
    refine X_getR d79 fg_x12_88 ?_
    refine X_iloadn 1 d82 rfl ?_
    refine X_iaload d83 ?_
    refine X_iloadn 2 d84 rfl ?_
    refine X_cVi (as := [vi (mI M60 (mR M60 a0 43) a1.toNatClampNeg), vi a2]) d85 cv_x12_413 ⟨by decide, by decide⟩ rfl (Nat.le_of_ble_eq_true rfl) (T12_setBehind M60 a0 (mI M60 (mR M60 a0 43) a1.toNatClampNeg) a2) (fun r85 M85 _ => ?_)
    refine X_cVi (as := [vi r85]) d88 cv_x12_410 ⟨by decide, by decide⟩ rfl (Nat.le_of_ble_eq_true rfl) (T12_setFor M85 a0 r85) (fun r88 M88 _ => ?_)
    refine X_iastore d91 ?_
    refine X_bM fun M91 _ => ?_
    refine X_inc (lv' := [(2, vi (a2 + (1 : Int32))), (0, vr a0), (1, vi a1)]) 2 d92 k_i_1 rfl (by decide) rfl ?_
    refine X_goto (t := 58) d95 rfl ?_
    refine X_sub [1, 2, 0] rfl ?_
    exact ih M91 a0 a1 (a2 + (1 : Int32))

theorem dd12_layMachines_b142 : AllD (ib i12_layMachines) [(142, .iastore, 1), (143, .iinc 1 1, 3), (146, .goto (-35), 3)] := allD_of (by decide +kernel)
def f12_layMachines_b142 (K111 : MM → Nat → Int32 → Option MM) (M : MM) (a0 : Nat) (a1 : Int32) (s0 : Int32) (s1 : Int32) (s2 : Nat) : Option MM :=
  aA M s2 0 s1 <|
  bM (sI M s2 s1.toNatClampNeg s0) fun M142 =>
  K111 M142 a0 (a1 + (1 : Int32))
set_option maxRecDepth 4000 in
theorem T12_layMachines_b142 {K111 : MM → Nat → Int32 → Option MM} (hK111 : ∀ (M : MM) (a0 : Nat) (a1 : Int32), X Lv i12_layMachines 111 [(0, vr a0), (1, vi a1)] [] M (K111 M a0 a1)) : ∀ (M : MM) (a0 : Nat) (a1 : Int32) (s0 : Int32) (s1 : Int32) (s2 : Nat), X Lv i12_layMachines 142 [(0, vr a0), (1, vi a1)] [vi s0, vi s1, vr s2] M (f12_layMachines_b142 K111 M a0 a1 s0 s1 s2) := by
  obtain ⟨d142, d143, d146, -⟩ := dd12_layMachines_b142
  intro M a0 a1 s0 s1 s2
  unfold f12_layMachines_b142
  refine X_iastore d142 ?_
  refine X_bM fun M142 _ => ?_
  refine X_inc (lv' := [(1, vi (a1 + (1 : Int32))), (0, vr a0)]) 1 d143 k_i_1 rfl (by decide) rfl ?_
  refine X_goto (t := 111) d146 rfl ?_
  refine X_sub [1, 0] rfl ?_
  exact hK111 M142 a0 (a1 + (1 : Int32))

theorem dd12_layMachines_b177 : AllD (ib i12_layMachines) [(177, .istore_n 1, 1), (178, .goto (-27), 3)] := allD_of (by decide +kernel)
def f12_layMachines_b177 (K151 : MM → Nat → Int32 → Option MM) (M : MM) (a0 : Nat) (s0 : Int32) : Option MM :=
  K151 M a0 s0
set_option maxRecDepth 4000 in
theorem T12_layMachines_b177 {K151 : MM → Nat → Int32 → Option MM} (hK151 : ∀ (M : MM) (a0 : Nat) (a1 : Int32), X Lv i12_layMachines 151 [(0, vr a0), (1, vi a1)] [] M (K151 M a0 a1)) : ∀ (M : MM) (a0 : Nat) (s0 : Int32), X Lv i12_layMachines 177 [(0, vr a0)] [vi s0] M (f12_layMachines_b177 K151 M a0 s0) := by
  obtain ⟨d177, d178, -⟩ := dd12_layMachines_b177
  intro M a0 s0
  unfold f12_layMachines_b177
  refine X_istoren (lv' := [(1, vi s0), (0, vr a0)]) d177 (by decide) rfl ?_
  refine X_goto (t := 151) d178 rfl ?_
  refine X_sub [1, 0] rfl ?_
  exact hK151 M a0 s0

theorem dd12_layMachines_b151 : AllD (ib i12_layMachines) [(151, .iload_n 1, 1), (152, .ifCond .eq 29, 3), (155, .aload_n 0, 1), (156, .getfield 416, 3), (159, .istore_n 2, 1), (160, .aload_n 0, 1), (161, .invokevirtual 422, 3), (164, .aload_n 0, 1), (165, .getfield 416, 3), (168, .iload_n 2, 1), (169, .if_icmp .eq 7, 3), (172, .iconst 1, 1), (173, .goto 4, 3), (176, .iconst 0, 1), (181, .return_, 1)] := allD_of (by decide +kernel)
def f12_layMachines_b151_body (rc : MM → Nat → Int32 → Option MM) (M : MM) (a0 : Nat) (a1 : Int32) : Option MM :=
  if a1 = 0 then
    some M
  else
    aO M a0 12 <|
    bW (mI M a0 48) fun v159 =>
    aO M a0 12 <|
    cV (f12_laysParts M a0) fun M161 =>
    aO M161 a0 12 <|
    if (mI M161 a0 48) = v159 then
      (f12_layMachines_b177 rc) M161 a0 (0 : Int32)
    else
      (f12_layMachines_b177 rc) M161 a0 (1 : Int32)
def f12_layMachines_b151 : MM → Nat → Int32 → Option MM := LP3 (f12_layMachines_b151_body) FU
set_option maxRecDepth 4000 in
theorem T12_layMachines_b151 : ∀ (M : MM) (a0 : Nat) (a1 : Int32), X Lv i12_layMachines 151 [(0, vr a0), (1, vi a1)] [] M (f12_layMachines_b151 M a0 a1) := by
  obtain ⟨d151, d152, d155, d156, d159, d160, d161, d164, d165, d168, d169, d172, d173, d176, d181, -⟩ := dd12_layMachines_b151
  refine LP3_i (P := fun M a0 a1 o => X Lv i12_layMachines 151 [(0, vr a0), (1, vi a1)] [] M o) (fun _ _ _ => X_none) (fun rc ih M a0 a1 => ?_) FU
  unfold f12_layMachines_b151_body
  refine X_iloadn 1 d151 rfl ?_
  refine X_if_eq (t := 181) d152 rfl (fun h152 => ?_) (fun h152 => ?_)
  · exact X_vreturn d181 rfl rfl
  · refine X_aloadn 0 d155 rfl ?_
    refine X_getI d156 fg_x12_416 ?_
    refine X_bWi fun v159 _ => ?_
    refine X_istoren (lv' := [(2, vi v159), (0, vr a0), (1, vi a1)]) d159 (by decide) rfl ?_
    refine X_aloadn 1 d160 rfl ?_
    refine X_cVv (as := []) d161 cv_x12_422 ⟨by decide, by decide⟩ rfl (Nat.le_of_ble_eq_true rfl) (T12_laysParts M a0) (fun M161 _ => ?_)
    refine X_aloadn 1 d164 rfl ?_
    refine X_getI d165 fg_x12_416 ?_
    refine X_iloadn 0 d168 rfl ?_
    refine X_icmp_eq (t := 176) d169 rfl (fun h169 => ?_) (fun h169 => ?_)
    · refine X_iconst k_i_0 d176 ?_
      refine X_sub [1] rfl ?_
      exact (T12_layMachines_b177 ih) M161 a0 (0 : Int32)
    · refine X_iconst k_i_1 d172 ?_
      refine X_goto (t := 177) d173 rfl ?_
      refine X_sub [1] rfl ?_
      exact (T12_layMachines_b177 ih) M161 a0 (1 : Int32)

theorem dd12_layMachines_b111 : AllD (ib i12_layMachines) [(111, .iload_n 1, 1), (112, .aload_n 0, 1), (113, .getfield 407, 3), (116, .if_icmp .ge 33, 3), (119, .aload_n 0, 1), (120, .getfield 95, 3), (123, .iload_n 1, 1), (124, .aload_n 0, 1), (125, .aload_n 0, 1), (126, .getfield 88, 3), (129, .iload_n 1, 1), (130, .iaload, 1), (131, .invokevirtual 419, 3), (134, .ifCond .eq 7, 3), (137, .iconst 1, 1), (138, .goto 4, 3), (141, .iconst 0, 1), (149, .iconst 1, 1), (150, .istore_n 1, 1)] := allD_of (by decide +kernel)
def f12_layMachines_b111_body (rc : MM → Nat → Int32 → Option MM) (M : MM) (a0 : Nat) (a1 : Int32) : Option MM :=
  aO M a0 12 <|
  if (mI M a0 47) ≤ a1 then
    f12_layMachines_b151 M a0 (1 : Int32)
  else
    aO M a0 12 <|
    aO M a0 12 <|
    aA M (mR M a0 43) 0 a1 <|
    aO M a0 12 <|
    cI (f12_isGoodSet M a0 (mI M (mR M a0 43) a1.toNatClampNeg)) fun r131 M131 =>
    if r131 = 0 then
      (f12_layMachines_b142 rc) M131 a0 a1 (0 : Int32) a1 (mR M a0 45)
    else
      (f12_layMachines_b142 rc) M131 a0 a1 (1 : Int32) a1 (mR M a0 45)
def f12_layMachines_b111 : MM → Nat → Int32 → Option MM := LP3 (f12_layMachines_b111_body) FU
set_option maxRecDepth 4000 in
theorem T12_layMachines_b111 : ∀ (M : MM) (a0 : Nat) (a1 : Int32), X Lv i12_layMachines 111 [(0, vr a0), (1, vi a1)] [] M (f12_layMachines_b111 M a0 a1) := by
  obtain ⟨d111, d112, d113, d116, d119, d120, d123, d124, d125, d126, d129, d130, d131, d134, d137, d138, d141, d149, d150, -⟩ := dd12_layMachines_b111
  refine LP3_i (P := fun M a0 a1 o => X Lv i12_layMachines 111 [(0, vr a0), (1, vi a1)] [] M o) (fun _ _ _ => X_none) (fun rc ih M a0 a1 => ?_) FU
  unfold f12_layMachines_b111_body
  refine X_iloadn 1 d111 rfl ?_
  refine X_aloadn 0 d112 rfl ?_
  refine X_getI d113 fg_x12_407 ?_
  refine X_icmp_ge (t := 149) d116 rfl (fun h116 => ?_) (fun h116 => ?_)
  · refine X_iconst k_i_1 d149 ?_
    refine X_istoren (lv' := [(1, vi (1 : Int32)), (0, vr a0)]) d150 (by decide) rfl ?_
    refine X_sub [1, 0] rfl ?_
    exact T12_layMachines_b151 M a0 (1 : Int32)
  · refine X_aloadn 0 d119 rfl ?_
    refine X_getR d120 fg_x12_95 ?_
    refine X_iloadn 1 d123 rfl ?_
    refine X_aloadn 0 d124 rfl ?_
    refine X_aloadn 0 d125 rfl ?_
    refine X_getR d126 fg_x12_88 ?_
    refine X_iloadn 1 d129 rfl ?_
    refine X_iaload d130 ?_
    refine X_cVi (as := [vi (mI M (mR M a0 43) a1.toNatClampNeg)]) d131 cv_x12_419 ⟨by decide, by decide⟩ rfl (Nat.le_of_ble_eq_true rfl) (T12_isGoodSet M a0 (mI M (mR M a0 43) a1.toNatClampNeg)) (fun r131 M131 _ => ?_)
    refine X_if_eq (t := 141) d134 rfl (fun h134 => ?_) (fun h134 => ?_)
    · refine X_iconst k_i_0 d141 ?_
      exact (T12_layMachines_b142 ih) M131 a0 a1 (0 : Int32) a1 (mR M a0 45)
    · refine X_iconst k_i_1 d137 ?_
      refine X_goto (t := 142) d138 rfl ?_
      exact (T12_layMachines_b142 ih) M131 a0 a1 (1 : Int32) a1 (mR M a0 45)

theorem dd12_layMachines_b48 : AllD (ib i12_layMachines) [(48, .iload_n 1, 1), (49, .aload_n 0, 1), (50, .getfield 407, 3), (53, .if_icmp .ge 51, 3), (56, .iconst 0, 1), (57, .istore_n 2, 1), (104, .aload_n 0, 1), (105, .iconst 0, 1), (106, .putfield 416, 3), (109, .iconst 0, 1), (110, .istore_n 1, 1)] := allD_of (by decide +kernel)
def f12_layMachines_b48_body (rc : MM → Nat → Int32 → Option MM) (M : MM) (a0 : Nat) (a1 : Int32) : Option MM :=
  aO M a0 12 <|
  if (mI M a0 47) ≤ a1 then
    aO M a0 12 <|
    bM (sI M a0 48 (0 : Int32)) fun M106 =>
    f12_layMachines_b111 M106 a0 (0 : Int32)
  else
    (f12_layMachines_b58 rc) M a0 a1 (0 : Int32)
def f12_layMachines_b48 : MM → Nat → Int32 → Option MM := LP3 (f12_layMachines_b48_body) FU
set_option maxRecDepth 4000 in
theorem T12_layMachines_b48 : ∀ (M : MM) (a0 : Nat) (a1 : Int32), X Lv i12_layMachines 48 [(0, vr a0), (1, vi a1)] [] M (f12_layMachines_b48 M a0 a1) := by
  obtain ⟨d48, d49, d50, d53, d56, d57, d104, d105, d106, d109, d110, -⟩ := dd12_layMachines_b48
  refine LP3_i (P := fun M a0 a1 o => X Lv i12_layMachines 48 [(0, vr a0), (1, vi a1)] [] M o) (fun _ _ _ => X_none) (fun rc ih M a0 a1 => ?_) FU
  unfold f12_layMachines_b48_body
  refine X_iloadn 1 d48 rfl ?_
  refine X_aloadn 0 d49 rfl ?_
  refine X_getI d50 fg_x12_407 ?_
  refine X_icmp_ge (t := 104) d53 rfl (fun h53 => ?_) (fun h53 => ?_)
  · refine X_aloadn 0 d104 rfl ?_
    refine X_iconst k_i_0 d105 ?_
    refine X_putI d106 fp_x12_416 ?_
    refine X_bM fun M106 _ => ?_
    refine X_iconst k_i_0 d109 ?_
    refine X_istoren (lv' := [(1, vi (0 : Int32)), (0, vr a0)]) d110 (by decide) rfl ?_
    refine X_sub [1, 0] rfl ?_
    exact T12_layMachines_b111 M106 a0 (0 : Int32)
  · refine X_iconst k_i_0 d56 ?_
    refine X_istoren (lv' := [(2, vi (0 : Int32)), (0, vr a0), (1, vi a1)]) d57 (by decide) rfl ?_
    refine X_sub [1, 2, 0] rfl ?_
    exact (T12_layMachines_b58 ih) M a0 a1 (0 : Int32)

theorem dd12_layMachines_b24 : AllD (ib i12_layMachines) [(24, .iload_n 1, 1), (25, .aload_n 0, 1), (26, .invokevirtual 120, 3), (29, .if_icmp .ge 17, 3), (32, .aload_n 0, 1), (33, .iconst 1, 1), (34, .iload_n 1, 1), (35, .ishl, 1), (36, .invokevirtual 410, 3), (39, .pop, 1), (40, .iinc 1 1, 3), (43, .goto (-19), 3), (46, .iconst 0, 1), (47, .istore_n 1, 1)] := allD_of (by decide +kernel)
def f12_layMachines_b24_body (rc : MM → Nat → Int32 → Option MM) (M : MM) (a0 : Nat) (a1 : Int32) : Option MM :=
  aO M a0 12 <|
  cI (f12_states M a0) fun r26 M26 =>
  if r26 ≤ a1 then
    f12_layMachines_b48 M26 a0 (0 : Int32)
  else
    aO M26 a0 12 <|
    cI (f12_setFor M26 a0 ((1 : Int32) <<< (a1 &&& 31))) fun r36 M36 =>
    rc M36 a0 (a1 + (1 : Int32))
def f12_layMachines_b24 : MM → Nat → Int32 → Option MM := LP3 (f12_layMachines_b24_body) FU
set_option maxRecDepth 4000 in
theorem T12_layMachines_b24 : ∀ (M : MM) (a0 : Nat) (a1 : Int32), X Lv i12_layMachines 24 [(0, vr a0), (1, vi a1)] [] M (f12_layMachines_b24 M a0 a1) := by
  obtain ⟨d24, d25, d26, d29, d32, d33, d34, d35, d36, d39, d40, d43, d46, d47, -⟩ := dd12_layMachines_b24
  refine LP3_i (P := fun M a0 a1 o => X Lv i12_layMachines 24 [(0, vr a0), (1, vi a1)] [] M o) (fun _ _ _ => X_none) (fun rc ih M a0 a1 => ?_) FU
  unfold f12_layMachines_b24_body
  refine X_iloadn 1 d24 rfl ?_
  refine X_aloadn 0 d25 rfl ?_
  refine X_cVi (as := []) d26 cv_x12_120 ⟨by decide, by decide⟩ rfl (Nat.le_of_ble_eq_true rfl) (T12_states M a0) (fun r26 M26 _ => ?_)
  refine X_icmp_ge (t := 46) d29 rfl (fun h29 => ?_) (fun h29 => ?_)
  · refine X_iconst k_i_0 d46 ?_
    refine X_istoren (lv' := [(1, vi (0 : Int32)), (0, vr a0)]) d47 (by decide) rfl ?_
    refine X_sub [1, 0] rfl ?_
    exact T12_layMachines_b48 M26 a0 (0 : Int32)
  · refine X_aloadn 0 d32 rfl ?_
    refine X_iconst k_i_1 d33 ?_
    refine X_iloadn 1 d34 rfl ?_
    refine X_ishl d35 ?_
    refine X_cVi (as := [vi ((1 : Int32) <<< (a1 &&& 31))]) d36 cv_x12_410 ⟨by decide, by decide⟩ rfl (Nat.le_of_ble_eq_true rfl) (T12_setFor M26 a0 ((1 : Int32) <<< (a1 &&& 31))) (fun r36 M36 _ => ?_)
    refine X_popi d39 ?_
    refine X_inc (lv' := [(1, vi (a1 + (1 : Int32))), (0, vr a0)]) 1 d40 k_i_1 rfl (by decide) rfl ?_
    refine X_goto (t := 24) d43 rfl ?_
    refine X_sub [1, 0] rfl ?_
    exact ih M36 a0 (a1 + (1 : Int32))

theorem dd12_layMachines : AllD (ib i12_layMachines) [(0, .aload_n 0, 1), (1, .invokevirtual 326, 3), (4, .aload_n 0, 1), (5, .getfield 246, 3), (8, .ifCond .eq 4, 3), (11, .return_, 1), (12, .aload_n 0, 1), (13, .iconst 1, 1), (14, .putfield 246, 3), (17, .aload_n 0, 1), (18, .iconst 0, 1), (19, .putfield 407, 3), (22, .iconst 0, 1), (23, .istore_n 1, 1)] := allD_of (by decide +kernel)
def f12_layMachines (M : MM) (a0 : Nat) : Option MM :=
  aO M a0 12 <|
  cV (f12_layTold M a0) fun M1 =>
  aO M1 a0 12 <|
  if (mI M1 a0 49) = 0 then
    aO M1 a0 12 <|
    bM (sI M1 a0 49 (1 : Int32)) fun M14 =>
    aO M14 a0 12 <|
    bM (sI M14 a0 47 (0 : Int32)) fun M19 =>
    f12_layMachines_b24 M19 a0 (0 : Int32)
  else
    some M1
set_option maxRecDepth 4000 in
theorem T12_layMachines (M : MM) (a0 : Nat) : ∀ q, f12_layMachines M a0 = some q → Run i12_layMachines [vr a0] M (Lv q) := by
  obtain ⟨d0, d1, d4, d5, d8, d11, d12, d13, d14, d17, d18, d19, d22, d23, -⟩ := dd12_layMachines
  refine Run_of_X (by decide) (Nat.le_of_ble_eq_true rfl) ?_
  show X Lv i12_layMachines 0 [(0, vr a0)] [] M _
  unfold f12_layMachines
  refine X_aloadn 0 d0 rfl ?_
  refine X_cVv (as := []) d1 cv_x12_326 ⟨by decide, by decide⟩ rfl (Nat.le_of_ble_eq_true rfl) (T12_layTold M a0) (fun M1 _ => ?_)
  refine X_aloadn 0 d4 rfl ?_
  refine X_getI d5 fg_x12_246 ?_
  refine X_if_eq (t := 12) d8 rfl (fun h8 => ?_) (fun h8 => ?_)
  · refine X_aloadn 0 d12 rfl ?_
    refine X_iconst k_i_1 d13 ?_
    refine X_putZc d14 fp_x12_246 (by decide) ?_
    refine X_bM fun M14 _ => ?_
    refine X_aloadn 0 d17 rfl ?_
    refine X_iconst k_i_0 d18 ?_
    refine X_putI d19 fp_x12_407 ?_
    refine X_bM fun M19 _ => ?_
    refine X_iconst k_i_0 d22 ?_
    refine X_istoren (lv' := [(1, vi (0 : Int32)), (0, vr a0)]) d23 (by decide) rfl ?_
    refine X_sub [1, 0] rfl ?_
    exact T12_layMachines_b24 M19 a0 (0 : Int32)
  · exact X_vreturn d11 rfl rfl

theorem dd12_nodeFor_b46 : AllD (ib i12_nodeFor) [(46, .aload_n 0, 1), (47, .getfield 104, 3), (50, .iload_n 2, 1), (51, .iaload, 1), (52, .ireturn, 1)] := allD_of (by decide +kernel)
def f12_nodeFor_b46 (M : MM) (a0 : Nat) (a2 : Int32) : Option (Int32 × MM) :=
  aO M a0 12 <|
  aA M (mR M a0 51) 0 a2 <|
  some (mI M (mR M a0 51) a2.toNatClampNeg, M)
set_option maxRecDepth 4000 in
theorem T12_nodeFor_b46 : ∀ (M : MM) (a0 : Nat) (a2 : Int32), X Li i12_nodeFor 46 [(0, vr a0), (2, vi a2)] [] M (f12_nodeFor_b46 M a0 a2) := by
  obtain ⟨d46, d47, d50, d51, d52, -⟩ := dd12_nodeFor_b46
  intro M a0 a2
  unfold f12_nodeFor_b46
  refine X_aloadn 0 d46 rfl ?_
  refine X_getR d47 fg_x12_104 ?_
  refine X_iloadn 1 d50 rfl ?_
  refine X_iaload d51 ?_
  exact X_ireturn d52 rfl rfl

theorem dd12_nodeFor : AllD (ib i12_nodeFor) [(0, .aload_n 0, 1), (1, .getfield 95, 3), (4, .iload_n 1, 1), (5, .iaload, 1), (6, .istore_n 2, 1), (7, .aload_n 0, 1), (8, .getfield 104, 3), (11, .iload_n 2, 1), (12, .iaload, 1), (13, .ifCond .ge 33, 3), (16, .aload_n 0, 1), (17, .getfield 104, 3), (20, .iload_n 2, 1), (21, .aload_n 0, 1), (22, .getfield 428, 3), (25, .iastore, 1), (26, .aload_n 0, 1), (27, .getfield 101, 3), (30, .aload_n 0, 1), (31, .getfield 428, 3), (34, .iload_n 1, 1), (35, .iastore, 1), (36, .aload_n 0, 1), (37, .dup, 1), (38, .getfield 428, 3), (41, .iconst 1, 1), (42, .iadd, 1), (43, .putfield 428, 3)] := allD_of (by decide +kernel)
def f12_nodeFor (M : MM) (a0 : Nat) (a1 : Int32) : Option (Int32 × MM) :=
  aO M a0 12 <|
  aA M (mR M a0 45) 0 a1 <|
  bW (mI M (mR M a0 45) a1.toNatClampNeg) fun v6 =>
  aO M a0 12 <|
  aA M (mR M a0 51) 0 v6 <|
  if 0 ≤ (mI M (mR M a0 51) v6.toNatClampNeg) then
    f12_nodeFor_b46 M a0 v6
  else
    aO M a0 12 <|
    aO M a0 12 <|
    aA M (mR M a0 51) 0 v6 <|
    bM (sI M (mR M a0 51) v6.toNatClampNeg (mI M a0 52)) fun M25 =>
    aO M25 a0 12 <|
    aO M25 a0 12 <|
    aA M25 (mR M25 a0 50) 0 (mI M25 a0 52) <|
    bM (sI M25 (mR M25 a0 50) (mI M25 a0 52).toNatClampNeg a1) fun M35 =>
    aO M35 a0 12 <|
    aO M35 a0 12 <|
    bM (sI M35 a0 52 ((mI M35 a0 52) + (1 : Int32))) fun M43 =>
    f12_nodeFor_b46 M43 a0 v6
set_option maxRecDepth 4000 in
theorem T12_nodeFor (M : MM) (a0 : Nat) (a1 : Int32) : ∀ q, f12_nodeFor M a0 a1 = some q → Run i12_nodeFor [vr a0, vi a1] M (Li q) := by
  obtain ⟨d0, d1, d4, d5, d6, d7, d8, d11, d12, d13, d16, d17, d20, d21, d22, d25, d26, d27, d30, d31, d34, d35, d36, d37, d38, d41, d42, d43, -⟩ := dd12_nodeFor
  refine Run_of_X (by decide) (Nat.le_of_ble_eq_true rfl) ?_
  show X Li i12_nodeFor 0 [(0, vr a0), (1, vi a1)] [] M _
  unfold f12_nodeFor
  refine X_aloadn 0 d0 rfl ?_
  refine X_getR d1 fg_x12_95 ?_
  refine X_iloadn 1 d4 rfl ?_
  refine X_iaload d5 ?_
  refine X_bWi fun v6 _ => ?_
  refine X_istoren (lv' := [(2, vi v6), (0, vr a0), (1, vi a1)]) d6 (by decide) rfl ?_
  refine X_aloadn 1 d7 rfl ?_
  refine X_getR d8 fg_x12_104 ?_
  refine X_iloadn 0 d11 rfl ?_
  refine X_iaload d12 ?_
  refine X_if_ge (t := 46) d13 rfl (fun h13 => ?_) (fun h13 => ?_)
  · refine X_sub [1, 0] rfl ?_
    exact T12_nodeFor_b46 M a0 v6
  · refine X_aloadn 1 d16 rfl ?_
    refine X_getR d17 fg_x12_104 ?_
    refine X_iloadn 0 d20 rfl ?_
    refine X_aloadn 1 d21 rfl ?_
    refine X_getI d22 fg_x12_428 ?_
    refine X_iastore d25 ?_
    refine X_bM fun M25 _ => ?_
    refine X_aloadn 1 d26 rfl ?_
    refine X_getR d27 fg_x12_101 ?_
    refine X_aloadn 1 d30 rfl ?_
    refine X_getI d31 fg_x12_428 ?_
    refine X_iloadn 2 d34 rfl ?_
    refine X_iastore d35 ?_
    refine X_bM fun M35 _ => ?_
    refine X_aloadn 1 d36 rfl ?_
    refine X_dupr d37 ?_
    refine X_getI d38 fg_x12_428 ?_
    refine X_iconst k_i_1 d41 ?_
    refine X_iadd d42 ?_
    refine X_putI d43 fp_x12_428 ?_
    refine X_bM fun M43 _ => ?_
    refine X_sub [1, 0] rfl ?_
    exact T12_nodeFor_b46 M43 a0 v6

theorem dd12_layMachine_b50 : AllD (ib i12_layMachine) [(50, .iload_n 3, 1), (51, .aload_n 0, 1), (52, .invokevirtual 128, 3), (55, .if_icmp .ge 30, 3), (58, .aload_n 0, 1), (59, .aload_n 0, 1), (60, .getfield 92, 3), (63, .bipush 6, 2), (65, .aload_n 0, 1), (66, .getfield 101, 3), (69, .iload_n 2, 1), (70, .iaload, 1), (71, .imul, 1), (72, .iload_n 3, 1), (73, .iadd, 1), (74, .iaload, 1), (75, .invokevirtual 434, 3), (78, .pop, 1), (79, .iinc 3 1, 3), (82, .goto (-32), 3), (85, .iinc 2 1, 3), (88, .goto (-48), 3)] := allD_of (by decide +kernel)
def f12_layMachine_b50_body (K40 : MM → Nat → Int32 → Option MM) (rc : MM → Nat → Int32 → Int32 → Option MM) (M : MM) (a0 : Nat) (a2 : Int32) (a3 : Int32) : Option MM :=
  aO M a0 12 <|
  cI (f12_signs M a0) fun r52 M52 =>
  if r52 ≤ a3 then
    K40 M52 a0 (a2 + (1 : Int32))
  else
    aO M52 a0 12 <|
    aO M52 a0 12 <|
    aA M52 (mR M52 a0 50) 0 a2 <|
    aA M52 (mR M52 a0 44) 0 (((6 : Int32) * (mI M52 (mR M52 a0 50) a2.toNatClampNeg)) + a3) <|
    aO M52 a0 12 <|
    cI (f12_nodeFor M52 a0 (mI M52 (mR M52 a0 44) (((6 : Int32) * (mI M52 (mR M52 a0 50) a2.toNatClampNeg)) + a3).toNatClampNeg)) fun r75 M75 =>
    rc M75 a0 a2 (a3 + (1 : Int32))
def f12_layMachine_b50 (K40 : MM → Nat → Int32 → Option MM) : MM → Nat → Int32 → Int32 → Option MM := LP4 (f12_layMachine_b50_body K40) FU
set_option maxRecDepth 4000 in
theorem T12_layMachine_b50 {K40 : MM → Nat → Int32 → Option MM} (hK40 : ∀ (M : MM) (a0 : Nat) (a2 : Int32), X Lv i12_layMachine 40 [(0, vr a0), (2, vi a2)] [] M (K40 M a0 a2)) : ∀ (M : MM) (a0 : Nat) (a2 : Int32) (a3 : Int32), X Lv i12_layMachine 50 [(0, vr a0), (2, vi a2), (3, vi a3)] [] M (f12_layMachine_b50 K40 M a0 a2 a3) := by
  obtain ⟨d50, d51, d52, d55, d58, d59, d60, d63, d65, d66, d69, d70, d71, d72, d73, d74, d75, d78, d79, d82, d85, d88, -⟩ := dd12_layMachine_b50
  refine LP4_i (P := fun M a0 a2 a3 o => X Lv i12_layMachine 50 [(0, vr a0), (2, vi a2), (3, vi a3)] [] M o) (fun _ _ _ _ => X_none) (fun rc ih M a0 a2 a3 => ?_) FU
  unfold f12_layMachine_b50_body
  refine X_iloadn 2 d50 rfl ?_
  refine X_aloadn 0 d51 rfl ?_
  refine X_cVi (as := []) d52 cv_x12_128 ⟨by decide, by decide⟩ rfl (Nat.le_of_ble_eq_true rfl) (T12_signs M a0) (fun r52 M52 _ => ?_)
  refine X_icmp_ge (t := 85) d55 rfl (fun h55 => ?_) (fun h55 => ?_)
  · refine X_inc (lv' := [(2, vi (a2 + (1 : Int32))), (0, vr a0), (3, vi a3)]) 1 d85 k_i_1 rfl (by decide) rfl ?_
    refine X_goto (t := 40) d88 rfl ?_
    refine X_sub [1, 0] rfl ?_
    exact hK40 M52 a0 (a2 + (1 : Int32))
  · refine X_aloadn 0 d58 rfl ?_
    refine X_aloadn 0 d59 rfl ?_
    refine X_getR d60 fg_x12_92 ?_
    refine X_bipush k_b_6 d63 ?_
    refine X_aloadn 0 d65 rfl ?_
    refine X_getR d66 fg_x12_101 ?_
    refine X_iloadn 1 d69 rfl ?_
    refine X_iaload d70 ?_
    refine X_imul d71 ?_
    refine X_iloadn 2 d72 rfl ?_
    refine X_iadd d73 ?_
    refine X_iaload d74 ?_
    refine X_cVi (as := [vi (mI M52 (mR M52 a0 44) (((6 : Int32) * (mI M52 (mR M52 a0 50) a2.toNatClampNeg)) + a3).toNatClampNeg)]) d75 cv_x12_434 ⟨by decide, by decide⟩ rfl (Nat.le_of_ble_eq_true rfl) (T12_nodeFor M52 a0 (mI M52 (mR M52 a0 44) (((6 : Int32) * (mI M52 (mR M52 a0 50) a2.toNatClampNeg)) + a3).toNatClampNeg)) (fun r75 M75 _ => ?_)
    refine X_popi d78 ?_
    refine X_inc (lv' := [(3, vi (a3 + (1 : Int32))), (0, vr a0), (2, vi a2)]) 2 d79 k_i_1 rfl (by decide) rfl ?_
    refine X_goto (t := 50) d82 rfl ?_
    refine X_sub [1, 2, 0] rfl ?_
    exact ih M75 a0 a2 (a3 + (1 : Int32))

theorem dd12_layMachine_b40 : AllD (ib i12_layMachine) [(40, .iload_n 2, 1), (41, .aload_n 0, 1), (42, .getfield 428, 3), (45, .if_icmp .ge 46, 3), (48, .iconst 0, 1), (49, .istore_n 3, 1), (91, .return_, 1)] := allD_of (by decide +kernel)
def f12_layMachine_b40_body (rc : MM → Nat → Int32 → Option MM) (M : MM) (a0 : Nat) (a2 : Int32) : Option MM :=
  aO M a0 12 <|
  if (mI M a0 52) ≤ a2 then
    some M
  else
    (f12_layMachine_b50 rc) M a0 a2 (0 : Int32)
def f12_layMachine_b40 : MM → Nat → Int32 → Option MM := LP3 (f12_layMachine_b40_body) FU
set_option maxRecDepth 4000 in
theorem T12_layMachine_b40 : ∀ (M : MM) (a0 : Nat) (a2 : Int32), X Lv i12_layMachine 40 [(0, vr a0), (2, vi a2)] [] M (f12_layMachine_b40 M a0 a2) := by
  obtain ⟨d40, d41, d42, d45, d48, d49, d91, -⟩ := dd12_layMachine_b40
  refine LP3_i (P := fun M a0 a2 o => X Lv i12_layMachine 40 [(0, vr a0), (2, vi a2)] [] M o) (fun _ _ _ => X_none) (fun rc ih M a0 a2 => ?_) FU
  unfold f12_layMachine_b40_body
  refine X_iloadn 1 d40 rfl ?_
  refine X_aloadn 0 d41 rfl ?_
  refine X_getI d42 fg_x12_428 ?_
  refine X_icmp_ge (t := 91) d45 rfl (fun h45 => ?_) (fun h45 => ?_)
  · exact X_vreturn d91 rfl rfl
  · refine X_iconst k_i_0 d48 ?_
    refine X_istoren (lv' := [(3, vi (0 : Int32)), (0, vr a0), (2, vi a2)]) d49 (by decide) rfl ?_
    refine X_sub [1, 2, 0] rfl ?_
    exact (T12_layMachine_b50 ih) M a0 a2 (0 : Int32)

theorem dd12_layMachine_b6 : AllD (ib i12_layMachine) [(6, .iload_n 2, 1), (7, .aload_n 0, 1), (8, .getfield 416, 3), (11, .if_icmp .ge 16, 3), (14, .aload_n 0, 1), (15, .getfield 104, 3), (18, .iload_n 2, 1), (19, .iconst (-1), 1), (20, .iastore, 1), (21, .iinc 2 1, 3), (24, .goto (-18), 3), (27, .aload_n 0, 1), (28, .iconst 0, 1), (29, .putfield 428, 3), (32, .aload_n 0, 1), (33, .iload_n 1, 1), (34, .invokevirtual 434, 3), (37, .pop, 1), (38, .iconst 0, 1), (39, .istore_n 2, 1)] := allD_of (by decide +kernel)
def f12_layMachine_b6_body (rc : MM → Nat → Int32 → Int32 → Option MM) (M : MM) (a0 : Nat) (a1 : Int32) (a2 : Int32) : Option MM :=
  aO M a0 12 <|
  if (mI M a0 48) ≤ a2 then
    aO M a0 12 <|
    bM (sI M a0 52 (0 : Int32)) fun M29 =>
    aO M29 a0 12 <|
    cI (f12_nodeFor M29 a0 a1) fun r34 M34 =>
    f12_layMachine_b40 M34 a0 (0 : Int32)
  else
    aO M a0 12 <|
    aA M (mR M a0 51) 0 a2 <|
    bM (sI M (mR M a0 51) a2.toNatClampNeg (-1 : Int32)) fun M20 =>
    rc M20 a0 a1 (a2 + (1 : Int32))
def f12_layMachine_b6 : MM → Nat → Int32 → Int32 → Option MM := LP4 (f12_layMachine_b6_body) FU
set_option maxRecDepth 4000 in
theorem T12_layMachine_b6 : ∀ (M : MM) (a0 : Nat) (a1 : Int32) (a2 : Int32), X Lv i12_layMachine 6 [(0, vr a0), (1, vi a1), (2, vi a2)] [] M (f12_layMachine_b6 M a0 a1 a2) := by
  obtain ⟨d6, d7, d8, d11, d14, d15, d18, d19, d20, d21, d24, d27, d28, d29, d32, d33, d34, d37, d38, d39, -⟩ := dd12_layMachine_b6
  refine LP4_i (P := fun M a0 a1 a2 o => X Lv i12_layMachine 6 [(0, vr a0), (1, vi a1), (2, vi a2)] [] M o) (fun _ _ _ _ => X_none) (fun rc ih M a0 a1 a2 => ?_) FU
  unfold f12_layMachine_b6_body
  refine X_iloadn 2 d6 rfl ?_
  refine X_aloadn 0 d7 rfl ?_
  refine X_getI d8 fg_x12_416 ?_
  refine X_icmp_ge (t := 27) d11 rfl (fun h11 => ?_) (fun h11 => ?_)
  · refine X_aloadn 0 d27 rfl ?_
    refine X_iconst k_i_0 d28 ?_
    refine X_putI d29 fp_x12_428 ?_
    refine X_bM fun M29 _ => ?_
    refine X_aloadn 0 d32 rfl ?_
    refine X_iloadn 1 d33 rfl ?_
    refine X_cVi (as := [vi a1]) d34 cv_x12_434 ⟨by decide, by decide⟩ rfl (Nat.le_of_ble_eq_true rfl) (T12_nodeFor M29 a0 a1) (fun r34 M34 _ => ?_)
    refine X_popi d37 ?_
    refine X_iconst k_i_0 d38 ?_
    refine X_istoren (lv' := [(2, vi (0 : Int32)), (0, vr a0), (1, vi a1)]) d39 (by decide) rfl ?_
    refine X_sub [1, 0] rfl ?_
    exact T12_layMachine_b40 M34 a0 (0 : Int32)
  · refine X_aloadn 0 d14 rfl ?_
    refine X_getR d15 fg_x12_104 ?_
    refine X_iloadn 2 d18 rfl ?_
    refine X_iconst k_i_m1 d19 ?_
    refine X_iastore d20 ?_
    refine X_bM fun M20 _ => ?_
    refine X_inc (lv' := [(2, vi (a2 + (1 : Int32))), (0, vr a0), (1, vi a1)]) 2 d21 k_i_1 rfl (by decide) rfl ?_
    refine X_goto (t := 6) d24 rfl ?_
    refine X_sub [1, 2, 0] rfl ?_
    exact ih M20 a0 a1 (a2 + (1 : Int32))

theorem dd12_layMachine : AllD (ib i12_layMachine) [(0, .aload_n 0, 1), (1, .invokevirtual 431, 3), (4, .iconst 0, 1), (5, .istore_n 2, 1)] := allD_of (by decide +kernel)
def f12_layMachine (M : MM) (a0 : Nat) (a1 : Int32) : Option MM :=
  aO M a0 12 <|
  cV (f12_layMachines M a0) fun M1 =>
  f12_layMachine_b6 M1 a0 a1 (0 : Int32)
set_option maxRecDepth 4000 in
theorem T12_layMachine (M : MM) (a0 : Nat) (a1 : Int32) : ∀ q, f12_layMachine M a0 a1 = some q → Run i12_layMachine [vr a0, vi a1] M (Lv q) := by
  obtain ⟨d0, d1, d4, d5, -⟩ := dd12_layMachine
  refine Run_of_X (by decide) (Nat.le_of_ble_eq_true rfl) ?_
  show X Lv i12_layMachine 0 [(0, vr a0), (1, vi a1)] [] M _
  unfold f12_layMachine
  refine X_aloadn 0 d0 rfl ?_
  refine X_cVv (as := []) d1 cv_x12_431 ⟨by decide, by decide⟩ rfl (Nat.le_of_ble_eq_true rfl) (T12_layMachines M a0) (fun M1 _ => ?_)
  refine X_iconst k_i_0 d4 ?_
  refine X_istoren (lv' := [(2, vi (0 : Int32)), (0, vr a0), (1, vi a1)]) d5 (by decide) rfl ?_
  refine X_sub [1, 2, 0] rfl ?_
  exact T12_layMachine_b6 M1 a0 a1 (0 : Int32)

theorem dd12_good : AllD (ib i12_good) [(0, .aload_n 0, 1), (1, .iconst 0, 1), (2, .putfield 113, 3), (5, .aload_n 0, 1), (6, .iload_n 1, 1), (7, .invokevirtual 350, 3), (10, .ifCond .ne 5, 3), (13, .iconst (-1), 1), (14, .ireturn, 1), (15, .aload_n 0, 1), (16, .iload_n 1, 1), (17, .invokevirtual 437, 3), (20, .iload_n 2, 1), (21, .iconst 0, 1), (22, .aload_n 0, 1), (23, .getfield 428, 3), (26, .iconst 1, 1), (27, .isub, 1), (28, .invokestatic 124, 3), (31, .ifCond .eq 29, 3), (34, .aload_n 0, 1), (35, .aload_n 0, 1), (36, .getfield 88, 3), (39, .aload_n 0, 1), (40, .getfield 101, 3), (43, .iload_n 2, 1), (44, .iaload, 1), (45, .iaload, 1), (46, .invokevirtual 419, 3), (49, .ifCond .eq 7, 3), (52, .iconst 1, 1), (53, .goto 8, 3), (56, .iconst 0, 1), (57, .goto 4, 3), (60, .iconst (-1), 1), (61, .ireturn, 1)] := allD_of (by decide +kernel)
def f12_good (M : MM) (a0 : Nat) (a1 : Int32) (a2 : Int32) : Option (Int32 × MM) :=
  aO M a0 12 <|
  bM (sI M a0 0 (0 : Int32)) fun M2 =>
  aO M2 a0 12 <|
  cI (f12_isState M2 a0 a1) fun r7 M7 =>
  if r7 = 0 then
    some ((-1 : Int32), M7)
  else
    aO M7 a0 12 <|
    cV (f12_layMachine M7 a0 a1) fun M17 =>
    aO M17 a0 12 <|
    cI (f12_in M17 a2 (0 : Int32) ((mI M17 a0 52) - (1 : Int32))) fun r28 M28 =>
    if r28 = 0 then
      some ((-1 : Int32), M28)
    else
      aO M28 a0 12 <|
      aO M28 a0 12 <|
      aA M28 (mR M28 a0 50) 0 a2 <|
      aA M28 (mR M28 a0 43) 0 (mI M28 (mR M28 a0 50) a2.toNatClampNeg) <|
      aO M28 a0 12 <|
      cI (f12_isGoodSet M28 a0 (mI M28 (mR M28 a0 43) (mI M28 (mR M28 a0 50) a2.toNatClampNeg).toNatClampNeg)) fun r46 M46 =>
      if r46 = 0 then
        some ((0 : Int32), M46)
      else
        some ((1 : Int32), M46)
set_option maxRecDepth 4000 in
theorem T12_good (M : MM) (a0 : Nat) (a1 : Int32) (a2 : Int32) : ∀ q, f12_good M a0 a1 a2 = some q → Run i12_good [vr a0, vi a1, vi a2] M (Li q) := by
  obtain ⟨d0, d1, d2, d5, d6, d7, d10, d13, d14, d15, d16, d17, d20, d21, d22, d23, d26, d27, d28, d31, d34, d35, d36, d39, d40, d43, d44, d45, d46, d49, d52, d53, d56, d57, d60, d61, -⟩ := dd12_good
  refine Run_of_X (by decide) (Nat.le_of_ble_eq_true rfl) ?_
  show X Li i12_good 0 [(0, vr a0), (1, vi a1), (2, vi a2)] [] M _
  unfold f12_good
  refine X_aloadn 0 d0 rfl ?_
  refine X_iconst k_i_0 d1 ?_
  refine X_putI d2 fp_x12_113 ?_
  refine X_bM fun M2 _ => ?_
  refine X_aloadn 0 d5 rfl ?_
  refine X_iloadn 1 d6 rfl ?_
  refine X_cVi (as := [vi a1]) d7 cv_x12_350 ⟨by decide, by decide⟩ rfl (Nat.le_of_ble_eq_true rfl) (T12_isState M2 a0 a1) (fun r7 M7 _ => ?_)
  refine X_if_ne (t := 15) d10 rfl (fun h10 => ?_) (fun h10 => ?_)
  · refine X_iconst k_i_m1 d13 ?_
    exact X_ireturn d14 rfl rfl
  · refine X_aloadn 0 d15 rfl ?_
    refine X_iloadn 1 d16 rfl ?_
    refine X_cVv (as := [vi a1]) d17 cv_x12_437 ⟨by decide, by decide⟩ rfl (Nat.le_of_ble_eq_true rfl) (T12_layMachine M7 a0 a1) (fun M17 _ => ?_)
    refine X_iloadn 2 d20 rfl ?_
    refine X_iconst k_i_0 d21 ?_
    refine X_aloadn 0 d22 rfl ?_
    refine X_getI d23 fg_x12_428 ?_
    refine X_iconst k_i_1 d26 ?_
    refine X_isub d27 ?_
    refine X_cSi (as := [vi a2, vi (0 : Int32), vi ((mI M17 a0 52) - (1 : Int32))]) d28 cs_x12_124 ⟨by decide, by decide⟩ rfl (Nat.le_of_ble_eq_true rfl) (T12_in M17 a2 (0 : Int32) ((mI M17 a0 52) - (1 : Int32))) (fun r28 M28 _ => ?_)
    refine X_if_eq (t := 60) d31 rfl (fun h31 => ?_) (fun h31 => ?_)
    · refine X_iconst k_i_m1 d60 ?_
      exact X_ireturn d61 rfl rfl
    · refine X_aloadn 0 d34 rfl ?_
      refine X_aloadn 0 d35 rfl ?_
      refine X_getR d36 fg_x12_88 ?_
      refine X_aloadn 0 d39 rfl ?_
      refine X_getR d40 fg_x12_101 ?_
      refine X_iloadn 2 d43 rfl ?_
      refine X_iaload d44 ?_
      refine X_iaload d45 ?_
      refine X_cVi (as := [vi (mI M28 (mR M28 a0 43) (mI M28 (mR M28 a0 50) a2.toNatClampNeg).toNatClampNeg)]) d46 cv_x12_419 ⟨by decide, by decide⟩ rfl (Nat.le_of_ble_eq_true rfl) (T12_isGoodSet M28 a0 (mI M28 (mR M28 a0 43) (mI M28 (mR M28 a0 50) a2.toNatClampNeg).toNatClampNeg)) (fun r46 M46 _ => ?_)
      refine X_if_eq (t := 56) d49 rfl (fun h49 => ?_) (fun h49 => ?_)
      · refine X_iconst k_i_0 d56 ?_
        refine X_goto (t := 61) d57 rfl ?_
        exact X_ireturn d61 rfl rfl
      · refine X_iconst k_i_1 d52 ?_
        refine X_goto (t := 61) d53 rfl ?_
        exact X_ireturn d61 rfl rfl

theorem dd12_greater : AllD (ib i12_greater) [(0, .iload_n 0, 1), (1, .iload_n 1, 1), (2, .if_icmp .le 7, 3), (5, .iload_n 0, 1), (6, .goto 4, 3), (9, .iload_n 1, 1), (10, .ireturn, 1)] := allD_of (by decide +kernel)
def f12_greater (M : MM) (a0 : Int32) (a1 : Int32) : Option (Int32 × MM) :=
  if a0 ≤ a1 then
    some (a1, M)
  else
    some (a0, M)
set_option maxRecDepth 4000 in
theorem T12_greater (M : MM) (a0 : Int32) (a1 : Int32) : ∀ q, f12_greater M a0 a1 = some q → Run i12_greater [vi a0, vi a1] M (Li q) := by
  obtain ⟨d0, d1, d2, d5, d6, d9, d10, -⟩ := dd12_greater
  refine Run_of_X (by decide) (Nat.le_of_ble_eq_true rfl) ?_
  show X Li i12_greater 0 [(0, vi a0), (1, vi a1)] [] M _
  unfold f12_greater
  refine X_iloadn 0 d0 rfl ?_
  refine X_iloadn 1 d1 rfl ?_
  refine X_icmp_le (t := 9) d2 rfl (fun h2 => ?_) (fun h2 => ?_)
  · refine X_iloadn 1 d9 rfl ?_
    exact X_ireturn d10 rfl rfl
  · refine X_iloadn 0 d5 rfl ?_
    refine X_goto (t := 10) d6 rfl ?_
    exact X_ireturn d10 rfl rfl

theorem dd12_riseBy_b102 : AllD (ib i12_riseBy) [(102, .istore_n 3, 1), (103, .iinc 4 1, 3), (106, .goto (-64), 3)] := allD_of (by decide +kernel)
def f12_riseBy_b102 (K42 : MM → Nat → Int32 → Int32 → Int32 → Int32 → Option (Int32 × MM)) (M : MM) (a0 : Nat) (a1 : Int32) (a2 : Int32) (a4 : Int32) (s0 : Int32) : Option (Int32 × MM) :=
  K42 M a0 a1 a2 s0 (a4 + (1 : Int32))
set_option maxRecDepth 4000 in
theorem T12_riseBy_b102 {K42 : MM → Nat → Int32 → Int32 → Int32 → Int32 → Option (Int32 × MM)} (hK42 : ∀ (M : MM) (a0 : Nat) (a1 : Int32) (a2 : Int32) (a3 : Int32) (a4 : Int32), X Li i12_riseBy 42 [(0, vr a0), (1, vi a1), (2, vi a2), (3, vi a3), (4, vi a4)] [] M (K42 M a0 a1 a2 a3 a4)) : ∀ (M : MM) (a0 : Nat) (a1 : Int32) (a2 : Int32) (a4 : Int32) (s0 : Int32), X Li i12_riseBy 102 [(0, vr a0), (1, vi a1), (2, vi a2), (4, vi a4)] [vi s0] M (f12_riseBy_b102 K42 M a0 a1 a2 a4 s0) := by
  obtain ⟨d102, d103, d106, -⟩ := dd12_riseBy_b102
  intro M a0 a1 a2 a4 s0
  unfold f12_riseBy_b102
  refine X_istoren (lv' := [(3, vi s0), (0, vr a0), (1, vi a1), (2, vi a2), (4, vi a4)]) d102 (by decide) rfl ?_
  refine X_inc (lv' := [(4, vi (a4 + (1 : Int32))), (3, vi s0), (0, vr a0), (1, vi a1), (2, vi a2)]) 4 d103 k_i_1 rfl (by decide) rfl ?_
  refine X_goto (t := 42) d106 rfl ?_
  refine X_sub [2, 3, 4, 1, 0] rfl ?_
  exact hK42 M a0 a1 a2 s0 (a4 + (1 : Int32))

theorem dd12_riseBy_b42 : AllD (ib i12_riseBy) [(42, .iload 4, 2), (44, .aload_n 0, 1), (45, .invokevirtual 120, 3), (48, .if_icmp .ge 61, 3), (51, .iload_n 2, 1), (52, .iconst 2, 1), (53, .if_icmp .ne 56, 3), (56, .aload_n 0, 1), (57, .aload_n 0, 1), (58, .iload_n 1, 1), (59, .iconst 2, 1), (60, .invokevirtual 138, 3), (63, .aload_n 0, 1), (64, .iload_n 1, 1), (65, .iconst 4, 1), (66, .invokevirtual 138, 3), (69, .iload 4, 2), (71, .invokevirtual 374, 3), (74, .ifCond .eq 27, 3), (77, .iload_n 3, 1), (78, .aload_n 0, 1), (79, .getfield 69, 3), (82, .aload_n 0, 1), (83, .iload 4, 2), (85, .aload_n 0, 1), (86, .iload_n 1, 1), (87, .iconst 5, 1), (88, .invokevirtual 138, 3), (91, .invokevirtual 368, 3), (94, .iaload, 1), (95, .invokestatic 377, 3), (98, .goto 4, 3), (101, .iload_n 3, 1), (109, .iload_n 3, 1), (110, .ireturn, 1)] := allD_of (by decide +kernel)
def f12_riseBy_b42_body (rc : MM → Nat → Int32 → Int32 → Int32 → Int32 → Option (Int32 × MM)) (M : MM) (a0 : Nat) (a1 : Int32) (a2 : Int32) (a3 : Int32) (a4 : Int32) : Option (Int32 × MM) :=
  aO M a0 12 <|
  cI (f12_states M a0) fun r45 M45 =>
  if r45 ≤ a4 then
    some (a3, M45)
  else
    if a2 = (2 : Int32) then
      aO M45 a0 12 <|
      cI (f12_ruleOf M45 a0 a1 (2 : Int32)) fun r60 M60 =>
      aO M60 a0 12 <|
      cI (f12_ruleOf M60 a0 a1 (4 : Int32)) fun r66 M66 =>
      aO M66 a0 12 <|
      cI (f12_canPop M66 a0 r60 r66 a4) fun r71 M71 =>
      if r71 = 0 then
        (f12_riseBy_b102 rc) M71 a0 a1 a2 a4 a3
      else
        aO M71 a0 12 <|
        aO M71 a0 12 <|
        cI (f12_ruleOf M71 a0 a1 (5 : Int32)) fun r88 M88 =>
        aO M88 a0 12 <|
        cI (f12_head M88 a0 a4 r88) fun r91 M91 =>
        aA M91 (mR M71 a0 37) 0 r91 <|
        cI (f12_greater M91 a3 (mI M91 (mR M71 a0 37) r91.toNatClampNeg)) fun r95 M95 =>
        (f12_riseBy_b102 rc) M95 a0 a1 a2 a4 r95
    else
      some (a3, M45)
def f12_riseBy_b42 : MM → Nat → Int32 → Int32 → Int32 → Int32 → Option (Int32 × MM) := LP6 (f12_riseBy_b42_body) FU
set_option maxRecDepth 4000 in
theorem T12_riseBy_b42 : ∀ (M : MM) (a0 : Nat) (a1 : Int32) (a2 : Int32) (a3 : Int32) (a4 : Int32), X Li i12_riseBy 42 [(0, vr a0), (1, vi a1), (2, vi a2), (3, vi a3), (4, vi a4)] [] M (f12_riseBy_b42 M a0 a1 a2 a3 a4) := by
  obtain ⟨d42, d44, d45, d48, d51, d52, d53, d56, d57, d58, d59, d60, d63, d64, d65, d66, d69, d71, d74, d77, d78, d79, d82, d83, d85, d86, d87, d88, d91, d94, d95, d98, d101, d109, d110, -⟩ := dd12_riseBy_b42
  refine LP6_i (P := fun M a0 a1 a2 a3 a4 o => X Li i12_riseBy 42 [(0, vr a0), (1, vi a1), (2, vi a2), (3, vi a3), (4, vi a4)] [] M o) (fun _ _ _ _ _ _ => X_none) (fun rc ih M a0 a1 a2 a3 a4 => ?_) FU
  unfold f12_riseBy_b42_body
  refine X_iload 4 d42 rfl ?_
  refine X_aloadn 0 d44 rfl ?_
  refine X_cVi (as := []) d45 cv_x12_120 ⟨by decide, by decide⟩ rfl (Nat.le_of_ble_eq_true rfl) (T12_states M a0) (fun r45 M45 _ => ?_)
  refine X_icmp_ge (t := 109) d48 rfl (fun h48 => ?_) (fun h48 => ?_)
  · refine X_iloadn 3 d109 rfl ?_
    exact X_ireturn d110 rfl rfl
  · refine X_iloadn 2 d51 rfl ?_
    refine X_iconst k_i_2 d52 ?_
    refine X_icmp_ne (t := 109) d53 rfl (fun h53 => ?_) (fun h53 => ?_)
    · refine X_aloadn 0 d56 rfl ?_
      refine X_aloadn 0 d57 rfl ?_
      refine X_iloadn 1 d58 rfl ?_
      refine X_iconst k_i_2 d59 ?_
      refine X_cVi (as := [vi a1, vi (2 : Int32)]) d60 cv_x12_138 ⟨by decide, by decide⟩ rfl (Nat.le_of_ble_eq_true rfl) (T12_ruleOf M45 a0 a1 (2 : Int32)) (fun r60 M60 _ => ?_)
      refine X_aloadn 0 d63 rfl ?_
      refine X_iloadn 1 d64 rfl ?_
      refine X_iconst k_i_4 d65 ?_
      refine X_cVi (as := [vi a1, vi (4 : Int32)]) d66 cv_x12_138 ⟨by decide, by decide⟩ rfl (Nat.le_of_ble_eq_true rfl) (T12_ruleOf M60 a0 a1 (4 : Int32)) (fun r66 M66 _ => ?_)
      refine X_iload 4 d69 rfl ?_
      refine X_cVi (as := [vi r60, vi r66, vi a4]) d71 cv_x12_374 ⟨by decide, by decide⟩ rfl (Nat.le_of_ble_eq_true rfl) (T12_canPop M66 a0 r60 r66 a4) (fun r71 M71 _ => ?_)
      refine X_if_eq (t := 101) d74 rfl (fun h74 => ?_) (fun h74 => ?_)
      · refine X_iloadn 3 d101 rfl ?_
        refine X_sub [0, 1, 2, 4] rfl ?_
        exact (T12_riseBy_b102 ih) M71 a0 a1 a2 a4 a3
      · refine X_iloadn 3 d77 rfl ?_
        refine X_aloadn 0 d78 rfl ?_
        refine X_getR d79 fg_x12_69 ?_
        refine X_aloadn 0 d82 rfl ?_
        refine X_iload 4 d83 rfl ?_
        refine X_aloadn 0 d85 rfl ?_
        refine X_iloadn 1 d86 rfl ?_
        refine X_iconst k_i_5 d87 ?_
        refine X_cVi (as := [vi a1, vi (5 : Int32)]) d88 cv_x12_138 ⟨by decide, by decide⟩ rfl (Nat.le_of_ble_eq_true rfl) (T12_ruleOf M71 a0 a1 (5 : Int32)) (fun r88 M88 _ => ?_)
        refine X_cVi (as := [vi a4, vi r88]) d91 cv_x12_368 ⟨by decide, by decide⟩ rfl (Nat.le_of_ble_eq_true rfl) (T12_head M88 a0 a4 r88) (fun r91 M91 _ => ?_)
        refine X_iaload d94 ?_
        refine X_cSi (as := [vi a3, vi (mI M91 (mR M71 a0 37) r91.toNatClampNeg)]) d95 cs_x12_377 ⟨by decide, by decide⟩ rfl (Nat.le_of_ble_eq_true rfl) (T12_greater M91 a3 (mI M91 (mR M71 a0 37) r91.toNatClampNeg)) (fun r95 M95 _ => ?_)
        refine X_goto (t := 102) d98 rfl ?_
        refine X_sub [0, 1, 2, 4] rfl ?_
        exact (T12_riseBy_b102 ih) M95 a0 a1 a2 a4 r95
    · refine X_iloadn 3 d109 rfl ?_
      exact X_ireturn d110 rfl rfl

theorem dd12_riseBy : AllD (ib i12_riseBy) [(0, .aload_n 0, 1), (1, .iload_n 1, 1), (2, .iconst 3, 1), (3, .invokevirtual 138, 3), (6, .istore_n 2, 1), (7, .iload_n 2, 1), (8, .ifCond .ne 5, 3), (11, .iconst 0, 1), (12, .ireturn, 1), (13, .aload_n 0, 1), (14, .getfield 69, 3), (17, .aload_n 0, 1), (18, .aload_n 0, 1), (19, .iload_n 1, 1), (20, .iconst 2, 1), (21, .invokevirtual 138, 3), (24, .aload_n 0, 1), (25, .iload_n 1, 1), (26, .iconst 4, 1), (27, .invokevirtual 138, 3), (30, .invokevirtual 368, 3), (33, .iaload, 1), (34, .iload_n 2, 1), (35, .iadd, 1), (36, .iconst 1, 1), (37, .isub, 1), (38, .istore_n 3, 1), (39, .iconst 0, 1), (40, .istore 4, 2)] := allD_of (by decide +kernel)
def f12_riseBy (M : MM) (a0 : Nat) (a1 : Int32) : Option (Int32 × MM) :=
  aO M a0 12 <|
  cI (f12_ruleOf M a0 a1 (3 : Int32)) fun r3 M3 =>
  if r3 = 0 then
    some ((0 : Int32), M3)
  else
    aO M3 a0 12 <|
    aO M3 a0 12 <|
    cI (f12_ruleOf M3 a0 a1 (2 : Int32)) fun r21 M21 =>
    aO M21 a0 12 <|
    cI (f12_ruleOf M21 a0 a1 (4 : Int32)) fun r27 M27 =>
    aO M27 a0 12 <|
    cI (f12_head M27 a0 r21 r27) fun r30 M30 =>
    aA M30 (mR M3 a0 37) 0 r30 <|
    bW (((mI M30 (mR M3 a0 37) r30.toNatClampNeg) + r3) - (1 : Int32)) fun v38 =>
    f12_riseBy_b42 M30 a0 a1 r3 v38 (0 : Int32)
set_option maxRecDepth 4000 in
theorem T12_riseBy (M : MM) (a0 : Nat) (a1 : Int32) : ∀ q, f12_riseBy M a0 a1 = some q → Run i12_riseBy [vr a0, vi a1] M (Li q) := by
  obtain ⟨d0, d1, d2, d3, d6, d7, d8, d11, d12, d13, d14, d17, d18, d19, d20, d21, d24, d25, d26, d27, d30, d33, d34, d35, d36, d37, d38, d39, d40, -⟩ := dd12_riseBy
  refine Run_of_X (by decide) (Nat.le_of_ble_eq_true rfl) ?_
  show X Li i12_riseBy 0 [(0, vr a0), (1, vi a1)] [] M _
  unfold f12_riseBy
  refine X_aloadn 0 d0 rfl ?_
  refine X_iloadn 1 d1 rfl ?_
  refine X_iconst k_i_3 d2 ?_
  refine X_cVi (as := [vi a1, vi (3 : Int32)]) d3 cv_x12_138 ⟨by decide, by decide⟩ rfl (Nat.le_of_ble_eq_true rfl) (T12_ruleOf M a0 a1 (3 : Int32)) (fun r3 M3 _ => ?_)
  refine X_istoren (lv' := [(2, vi r3), (0, vr a0), (1, vi a1)]) d6 (by decide) rfl ?_
  refine X_iloadn 0 d7 rfl ?_
  refine X_if_ne (t := 13) d8 rfl (fun h8 => ?_) (fun h8 => ?_)
  · refine X_iconst k_i_0 d11 ?_
    exact X_ireturn d12 rfl rfl
  · refine X_aloadn 1 d13 rfl ?_
    refine X_getR d14 fg_x12_69 ?_
    refine X_aloadn 1 d17 rfl ?_
    refine X_aloadn 1 d18 rfl ?_
    refine X_iloadn 2 d19 rfl ?_
    refine X_iconst k_i_2 d20 ?_
    refine X_cVi (as := [vi a1, vi (2 : Int32)]) d21 cv_x12_138 ⟨by decide, by decide⟩ rfl (Nat.le_of_ble_eq_true rfl) (T12_ruleOf M3 a0 a1 (2 : Int32)) (fun r21 M21 _ => ?_)
    refine X_aloadn 1 d24 rfl ?_
    refine X_iloadn 2 d25 rfl ?_
    refine X_iconst k_i_4 d26 ?_
    refine X_cVi (as := [vi a1, vi (4 : Int32)]) d27 cv_x12_138 ⟨by decide, by decide⟩ rfl (Nat.le_of_ble_eq_true rfl) (T12_ruleOf M21 a0 a1 (4 : Int32)) (fun r27 M27 _ => ?_)
    refine X_cVi (as := [vi r21, vi r27]) d30 cv_x12_368 ⟨by decide, by decide⟩ rfl (Nat.le_of_ble_eq_true rfl) (T12_head M27 a0 r21 r27) (fun r30 M30 _ => ?_)
    refine X_iaload d33 ?_
    refine X_iloadn 0 d34 rfl ?_
    refine X_iadd d35 ?_
    refine X_iconst k_i_1 d36 ?_
    refine X_isub d37 ?_
    refine X_bWi fun v38 _ => ?_
    refine X_istoren (lv' := [(3, vi v38), (2, vi r3), (0, vr a0), (1, vi a1)]) d38 (by decide) rfl ?_
    refine X_iconst k_i_0 d39 ?_
    refine X_istore (lv' := [(4, vi (0 : Int32)), (3, vi v38), (2, vi r3), (0, vr a0), (1, vi a1)]) d40 (by decide) rfl ?_
    refine X_sub [3, 4, 2, 1, 0] rfl ?_
    exact T12_riseBy_b42 M30 a0 a1 r3 v38 (0 : Int32)

theorem dd12_layRise_b122 : AllD (ib i12_layRise) [(122, .iinc 2 1, 3), (125, .goto (-90), 3)] := allD_of (by decide +kernel)
def f12_layRise_b122 (K35 : MM → Nat → Int32 → Int32 → Option MM) (M : MM) (a0 : Nat) (a1 : Int32) (a2 : Int32) : Option MM :=
  K35 M a0 a1 (a2 + (1 : Int32))
set_option maxRecDepth 4000 in
theorem T12_layRise_b122 {K35 : MM → Nat → Int32 → Int32 → Option MM} (hK35 : ∀ (M : MM) (a0 : Nat) (a1 : Int32) (a2 : Int32), X Lv i12_layRise 35 [(0, vr a0), (1, vi a1), (2, vi a2)] [] M (K35 M a0 a1 a2)) : ∀ (M : MM) (a0 : Nat) (a1 : Int32) (a2 : Int32), X Lv i12_layRise 122 [(0, vr a0), (1, vi a1), (2, vi a2)] [] M (f12_layRise_b122 K35 M a0 a1 a2) := by
  obtain ⟨d122, d125, -⟩ := dd12_layRise_b122
  intro M a0 a1 a2
  unfold f12_layRise_b122
  refine X_inc (lv' := [(2, vi (a2 + (1 : Int32))), (0, vr a0), (1, vi a1)]) 2 d122 k_i_1 rfl (by decide) rfl ?_
  refine X_goto (t := 35) d125 rfl ?_
  refine X_sub [1, 2, 0] rfl ?_
  exact hK35 M a0 a1 (a2 + (1 : Int32))

theorem dd12_layRise_b99 : AllD (ib i12_layRise) [(99, .istore 4, 2), (101, .iload 4, 2), (103, .aload_n 0, 1), (104, .getfield 69, 3), (107, .iload_n 3, 1), (108, .iaload, 1), (109, .if_icmp .le 13, 3), (112, .aload_n 0, 1), (113, .getfield 69, 3), (116, .iload_n 3, 1), (117, .iload 4, 2), (119, .iastore, 1), (120, .iconst 1, 1), (121, .istore_n 1, 1)] := allD_of (by decide +kernel)
def f12_layRise_b99 (K35 : MM → Nat → Int32 → Int32 → Option MM) (M : MM) (a0 : Nat) (a1 : Int32) (a2 : Int32) (a3 : Int32) (s0 : Int32) : Option MM :=
  aO M a0 12 <|
  aA M (mR M a0 37) 0 a3 <|
  if s0 ≤ (mI M (mR M a0 37) a3.toNatClampNeg) then
    (f12_layRise_b122 K35) M a0 a1 a2
  else
    aO M a0 12 <|
    aA M (mR M a0 37) 0 a3 <|
    bM (sI M (mR M a0 37) a3.toNatClampNeg s0) fun M119 =>
    (f12_layRise_b122 K35) M119 a0 (1 : Int32) a2
set_option maxRecDepth 4000 in
theorem T12_layRise_b99 {K35 : MM → Nat → Int32 → Int32 → Option MM} (hK35 : ∀ (M : MM) (a0 : Nat) (a1 : Int32) (a2 : Int32), X Lv i12_layRise 35 [(0, vr a0), (1, vi a1), (2, vi a2)] [] M (K35 M a0 a1 a2)) : ∀ (M : MM) (a0 : Nat) (a1 : Int32) (a2 : Int32) (a3 : Int32) (s0 : Int32), X Lv i12_layRise 99 [(0, vr a0), (1, vi a1), (2, vi a2), (3, vi a3)] [vi s0] M (f12_layRise_b99 K35 M a0 a1 a2 a3 s0) := by
  obtain ⟨d99, d101, d103, d104, d107, d108, d109, d112, d113, d116, d117, d119, d120, d121, -⟩ := dd12_layRise_b99
  intro M a0 a1 a2 a3 s0
  unfold f12_layRise_b99
  refine X_istore (lv' := [(4, vi s0), (0, vr a0), (1, vi a1), (2, vi a2), (3, vi a3)]) d99 (by decide) rfl ?_
  refine X_iload 0 d101 rfl ?_
  refine X_aloadn 1 d103 rfl ?_
  refine X_getR d104 fg_x12_69 ?_
  refine X_iloadn 4 d107 rfl ?_
  refine X_iaload d108 ?_
  refine X_icmp_le (t := 122) d109 rfl (fun h109 => ?_) (fun h109 => ?_)
  · refine X_sub [1, 2, 3] rfl ?_
    exact (T12_layRise_b122 hK35) M a0 a1 a2
  · refine X_aloadn 1 d112 rfl ?_
    refine X_getR d113 fg_x12_69 ?_
    refine X_iloadn 4 d116 rfl ?_
    refine X_iload 0 d117 rfl ?_
    refine X_iastore d119 ?_
    refine X_bM fun M119 _ => ?_
    refine X_iconst k_i_1 d120 ?_
    refine X_istoren (lv' := [(1, vi (1 : Int32)), (4, vi s0), (0, vr a0), (2, vi a2), (3, vi a3)]) d121 (by decide) rfl ?_
    refine X_sub [2, 0, 3] rfl ?_
    exact (T12_layRise_b122 hK35) M119 a0 (1 : Int32) a2

theorem dd12_layRise_b82 : AllD (ib i12_layRise) [(82, .istore 4, 2), (84, .iload 4, 2), (86, .bipush 30, 2), (88, .if_icmp .le 9, 3), (91, .sipush 1000, 3), (94, .goto 5, 3), (97, .iload 4, 2)] := allD_of (by decide +kernel)
def f12_layRise_b82 (K35 : MM → Nat → Int32 → Int32 → Option MM) (M : MM) (a0 : Nat) (a1 : Int32) (a2 : Int32) (a3 : Int32) (s0 : Int32) : Option MM :=
  if s0 ≤ (30 : Int32) then
    (f12_layRise_b99 K35) M a0 a1 a2 a3 s0
  else
    (f12_layRise_b99 K35) M a0 a1 a2 a3 (1000 : Int32)
set_option maxRecDepth 4000 in
theorem T12_layRise_b82 {K35 : MM → Nat → Int32 → Int32 → Option MM} (hK35 : ∀ (M : MM) (a0 : Nat) (a1 : Int32) (a2 : Int32), X Lv i12_layRise 35 [(0, vr a0), (1, vi a1), (2, vi a2)] [] M (K35 M a0 a1 a2)) : ∀ (M : MM) (a0 : Nat) (a1 : Int32) (a2 : Int32) (a3 : Int32) (s0 : Int32), X Lv i12_layRise 82 [(0, vr a0), (1, vi a1), (2, vi a2), (3, vi a3)] [vi s0] M (f12_layRise_b82 K35 M a0 a1 a2 a3 s0) := by
  obtain ⟨d82, d84, d86, d88, d91, d94, d97, -⟩ := dd12_layRise_b82
  intro M a0 a1 a2 a3 s0
  unfold f12_layRise_b82
  refine X_istore (lv' := [(4, vi s0), (0, vr a0), (1, vi a1), (2, vi a2), (3, vi a3)]) d82 (by decide) rfl ?_
  refine X_iload 0 d84 rfl ?_
  refine X_bipush k_b_30 d86 ?_
  refine X_icmp_le (t := 97) d88 rfl (fun h88 => ?_) (fun h88 => ?_)
  · refine X_iload 0 d97 rfl ?_
    refine X_sub [1, 2, 3, 4] rfl ?_
    exact (T12_layRise_b99 hK35) M a0 a1 a2 a3 s0
  · refine X_sipush k_s_1000 d91 ?_
    refine X_goto (t := 99) d94 rfl ?_
    refine X_sub [1, 2, 3, 4] rfl ?_
    exact (T12_layRise_b99 hK35) M a0 a1 a2 a3 (1000 : Int32)

theorem dd12_layRise_b35 : AllD (ib i12_layRise) [(35, .iload_n 2, 1), (36, .aload_n 0, 1), (37, .getfield 7, 3), (40, .iconst 2, 1), (41, .iaload, 1), (42, .if_icmp .ge 86, 3), (45, .aload_n 0, 1), (46, .aload_n 0, 1), (47, .iload_n 2, 1), (48, .iconst 0, 1), (49, .invokevirtual 138, 3), (52, .aload_n 0, 1), (53, .iload_n 2, 1), (54, .iconst 1, 1), (55, .invokevirtual 138, 3), (58, .invokevirtual 368, 3), (61, .istore_n 3, 1), (62, .aload_n 0, 1), (63, .getfield 131, 3), (66, .iload_n 2, 1), (67, .invokestatic 134, 3), (70, .ifCond .eq 7, 3), (73, .iconst 0, 1), (74, .goto 8, 3), (77, .aload_n 0, 1), (78, .iload_n 2, 1), (79, .invokevirtual 371, 3), (128, .goto (-101), 3)] := allD_of (by decide +kernel)
def f12_layRise_b35_body (K27 : MM → Nat → Int32 → Option MM) (rc : MM → Nat → Int32 → Int32 → Option MM) (M : MM) (a0 : Nat) (a1 : Int32) (a2 : Int32) : Option MM :=
  aO M a0 12 <|
  aA M (mR M a0 1) 0 (2 : Int32) <|
  if (mI M (mR M a0 1) (2 : Int32).toNatClampNeg) ≤ a2 then
    K27 M a0 a1
  else
    aO M a0 12 <|
    cI (f12_ruleOf M a0 a2 (0 : Int32)) fun r49 M49 =>
    aO M49 a0 12 <|
    cI (f12_ruleOf M49 a0 a2 (1 : Int32)) fun r55 M55 =>
    aO M55 a0 12 <|
    cI (f12_head M55 a0 r49 r55) fun r58 M58 =>
    aO M58 a0 12 <|
    cI (f12_isOf M58 (mI M58 a0 5) a2) fun r67 M67 =>
    if r67 = 0 then
      aO M67 a0 12 <|
      cI (f12_riseBy M67 a0 a2) fun r79 M79 =>
      (f12_layRise_b82 rc) M79 a0 a1 a2 r58 r79
    else
      (f12_layRise_b82 rc) M67 a0 a1 a2 r58 (0 : Int32)
def f12_layRise_b35 (K27 : MM → Nat → Int32 → Option MM) : MM → Nat → Int32 → Int32 → Option MM := LP4 (f12_layRise_b35_body K27) FU
set_option maxRecDepth 4000 in
theorem T12_layRise_b35 {K27 : MM → Nat → Int32 → Option MM} (hK27 : ∀ (M : MM) (a0 : Nat) (a1 : Int32), X Lv i12_layRise 27 [(0, vr a0), (1, vi a1)] [] M (K27 M a0 a1)) : ∀ (M : MM) (a0 : Nat) (a1 : Int32) (a2 : Int32), X Lv i12_layRise 35 [(0, vr a0), (1, vi a1), (2, vi a2)] [] M (f12_layRise_b35 K27 M a0 a1 a2) := by
  obtain ⟨d35, d36, d37, d40, d41, d42, d45, d46, d47, d48, d49, d52, d53, d54, d55, d58, d61, d62, d63, d66, d67, d70, d73, d74, d77, d78, d79, d128, -⟩ := dd12_layRise_b35
  refine LP4_i (P := fun M a0 a1 a2 o => X Lv i12_layRise 35 [(0, vr a0), (1, vi a1), (2, vi a2)] [] M o) (fun _ _ _ _ => X_none) (fun rc ih M a0 a1 a2 => ?_) FU
  unfold f12_layRise_b35_body
  refine X_iloadn 2 d35 rfl ?_
  refine X_aloadn 0 d36 rfl ?_
  refine X_getR d37 fg_x12_7 ?_
  refine X_iconst k_i_2 d40 ?_
  refine X_iaload d41 ?_
  refine X_icmp_ge (t := 128) d42 rfl (fun h42 => ?_) (fun h42 => ?_)
  · refine X_goto (t := 27) d128 rfl ?_
    refine X_sub [0, 1] rfl ?_
    exact hK27 M a0 a1
  · refine X_aloadn 0 d45 rfl ?_
    refine X_aloadn 0 d46 rfl ?_
    refine X_iloadn 2 d47 rfl ?_
    refine X_iconst k_i_0 d48 ?_
    refine X_cVi (as := [vi a2, vi (0 : Int32)]) d49 cv_x12_138 ⟨by decide, by decide⟩ rfl (Nat.le_of_ble_eq_true rfl) (T12_ruleOf M a0 a2 (0 : Int32)) (fun r49 M49 _ => ?_)
    refine X_aloadn 0 d52 rfl ?_
    refine X_iloadn 2 d53 rfl ?_
    refine X_iconst k_i_1 d54 ?_
    refine X_cVi (as := [vi a2, vi (1 : Int32)]) d55 cv_x12_138 ⟨by decide, by decide⟩ rfl (Nat.le_of_ble_eq_true rfl) (T12_ruleOf M49 a0 a2 (1 : Int32)) (fun r55 M55 _ => ?_)
    refine X_cVi (as := [vi r49, vi r55]) d58 cv_x12_368 ⟨by decide, by decide⟩ rfl (Nat.le_of_ble_eq_true rfl) (T12_head M55 a0 r49 r55) (fun r58 M58 _ => ?_)
    refine X_istoren (lv' := [(3, vi r58), (0, vr a0), (1, vi a1), (2, vi a2)]) d61 (by decide) rfl ?_
    refine X_aloadn 1 d62 rfl ?_
    refine X_getI d63 fg_x12_131 ?_
    refine X_iloadn 3 d66 rfl ?_
    refine X_cSi (as := [vi (mI M58 a0 5), vi a2]) d67 cs_x12_134 ⟨by decide, by decide⟩ rfl (Nat.le_of_ble_eq_true rfl) (T12_isOf M58 (mI M58 a0 5) a2) (fun r67 M67 _ => ?_)
    refine X_if_eq (t := 77) d70 rfl (fun h70 => ?_) (fun h70 => ?_)
    · refine X_aloadn 1 d77 rfl ?_
      refine X_iloadn 3 d78 rfl ?_
      refine X_cVi (as := [vi a2]) d79 cv_x12_371 ⟨by decide, by decide⟩ rfl (Nat.le_of_ble_eq_true rfl) (T12_riseBy M67 a0 a2) (fun r79 M79 _ => ?_)
      refine X_sub [1, 2, 3, 0] rfl ?_
      exact (T12_layRise_b82 ih) M79 a0 a1 a2 r58 r79
    · refine X_iconst k_i_0 d73 ?_
      refine X_goto (t := 82) d74 rfl ?_
      refine X_sub [1, 2, 3, 0] rfl ?_
      exact (T12_layRise_b82 ih) M67 a0 a1 a2 r58 (0 : Int32)

theorem dd12_layRise_b27 : AllD (ib i12_layRise) [(27, .iload_n 1, 1), (28, .ifCond .eq 103, 3), (31, .iconst 0, 1), (32, .istore_n 1, 1), (33, .iconst 0, 1), (34, .istore_n 2, 1), (131, .return_, 1)] := allD_of (by decide +kernel)
def f12_layRise_b27_body (rc : MM → Nat → Int32 → Option MM) (M : MM) (a0 : Nat) (a1 : Int32) : Option MM :=
  if a1 = 0 then
    some M
  else
    (f12_layRise_b35 rc) M a0 (0 : Int32) (0 : Int32)
def f12_layRise_b27 : MM → Nat → Int32 → Option MM := LP3 (f12_layRise_b27_body) FU
set_option maxRecDepth 4000 in
theorem T12_layRise_b27 : ∀ (M : MM) (a0 : Nat) (a1 : Int32), X Lv i12_layRise 27 [(0, vr a0), (1, vi a1)] [] M (f12_layRise_b27 M a0 a1) := by
  obtain ⟨d27, d28, d31, d32, d33, d34, d131, -⟩ := dd12_layRise_b27
  refine LP3_i (P := fun M a0 a1 o => X Lv i12_layRise 27 [(0, vr a0), (1, vi a1)] [] M o) (fun _ _ _ => X_none) (fun rc ih M a0 a1 => ?_) FU
  unfold f12_layRise_b27_body
  refine X_iloadn 1 d27 rfl ?_
  refine X_if_eq (t := 131) d28 rfl (fun h28 => ?_) (fun h28 => ?_)
  · exact X_vreturn d131 rfl rfl
  · refine X_iconst k_i_0 d31 ?_
    refine X_istoren (lv' := [(1, vi (0 : Int32)), (0, vr a0)]) d32 (by decide) rfl ?_
    refine X_iconst k_i_0 d33 ?_
    refine X_istoren (lv' := [(2, vi (0 : Int32)), (1, vi (0 : Int32)), (0, vr a0)]) d34 (by decide) rfl ?_
    refine X_sub [2, 1, 0] rfl ?_
    exact (T12_layRise_b35 ih) M a0 (0 : Int32) (0 : Int32)

theorem dd12_layRise_b6 : AllD (ib i12_layRise) [(6, .iload_n 1, 1), (7, .bipush 30, 2), (9, .if_icmp .ge 16, 3), (12, .aload_n 0, 1), (13, .getfield 69, 3), (16, .iload_n 1, 1), (17, .iconst 1, 1), (18, .iastore, 1), (19, .iinc 1 1, 3), (22, .goto (-16), 3), (25, .iconst 1, 1), (26, .istore_n 1, 1)] := allD_of (by decide +kernel)
def f12_layRise_b6_body (rc : MM → Nat → Int32 → Option MM) (M : MM) (a0 : Nat) (a1 : Int32) : Option MM :=
  if (30 : Int32) ≤ a1 then
    f12_layRise_b27 M a0 (1 : Int32)
  else
    aO M a0 12 <|
    aA M (mR M a0 37) 0 a1 <|
    bM (sI M (mR M a0 37) a1.toNatClampNeg (1 : Int32)) fun M18 =>
    rc M18 a0 (a1 + (1 : Int32))
def f12_layRise_b6 : MM → Nat → Int32 → Option MM := LP3 (f12_layRise_b6_body) FU
set_option maxRecDepth 4000 in
theorem T12_layRise_b6 : ∀ (M : MM) (a0 : Nat) (a1 : Int32), X Lv i12_layRise 6 [(0, vr a0), (1, vi a1)] [] M (f12_layRise_b6 M a0 a1) := by
  obtain ⟨d6, d7, d9, d12, d13, d16, d17, d18, d19, d22, d25, d26, -⟩ := dd12_layRise_b6
  refine LP3_i (P := fun M a0 a1 o => X Lv i12_layRise 6 [(0, vr a0), (1, vi a1)] [] M o) (fun _ _ _ => X_none) (fun rc ih M a0 a1 => ?_) FU
  unfold f12_layRise_b6_body
  refine X_iloadn 1 d6 rfl ?_
  refine X_bipush k_b_30 d7 ?_
  refine X_icmp_ge (t := 25) d9 rfl (fun h9 => ?_) (fun h9 => ?_)
  · refine X_iconst k_i_1 d25 ?_
    refine X_istoren (lv' := [(1, vi (1 : Int32)), (0, vr a0)]) d26 (by decide) rfl ?_
    refine X_sub [1, 0] rfl ?_
    exact T12_layRise_b27 M a0 (1 : Int32)
  · refine X_aloadn 0 d12 rfl ?_
    refine X_getR d13 fg_x12_69 ?_
    refine X_iloadn 1 d16 rfl ?_
    refine X_iconst k_i_1 d17 ?_
    refine X_iastore d18 ?_
    refine X_bM fun M18 _ => ?_
    refine X_inc (lv' := [(1, vi (a1 + (1 : Int32))), (0, vr a0)]) 1 d19 k_i_1 rfl (by decide) rfl ?_
    refine X_goto (t := 6) d22 rfl ?_
    refine X_sub [1, 0] rfl ?_
    exact ih M18 a0 (a1 + (1 : Int32))

theorem dd12_layRise : AllD (ib i12_layRise) [(0, .aload_n 0, 1), (1, .invokevirtual 326, 3), (4, .iconst 0, 1), (5, .istore_n 1, 1)] := allD_of (by decide +kernel)
def f12_layRise (M : MM) (a0 : Nat) : Option MM :=
  aO M a0 12 <|
  cV (f12_layTold M a0) fun M1 =>
  f12_layRise_b6 M1 a0 (0 : Int32)
set_option maxRecDepth 4000 in
theorem T12_layRise (M : MM) (a0 : Nat) : ∀ q, f12_layRise M a0 = some q → Run i12_layRise [vr a0] M (Lv q) := by
  obtain ⟨d0, d1, d4, d5, -⟩ := dd12_layRise
  refine Run_of_X (by decide) (Nat.le_of_ble_eq_true rfl) ?_
  show X Lv i12_layRise 0 [(0, vr a0)] [] M _
  unfold f12_layRise
  refine X_aloadn 0 d0 rfl ?_
  refine X_cVv (as := []) d1 cv_x12_326 ⟨by decide, by decide⟩ rfl (Nat.le_of_ble_eq_true rfl) (T12_layTold M a0) (fun M1 _ => ?_)
  refine X_iconst k_i_0 d4 ?_
  refine X_istoren (lv' := [(1, vi (0 : Int32)), (0, vr a0)]) d5 (by decide) rfl ?_
  refine X_sub [1, 0] rfl ?_
  exact T12_layRise_b6 M1 a0 (0 : Int32)

