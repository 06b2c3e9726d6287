/-! printed by program: methods as functions, and that the bytecode does what they tell -/
theorem dd12_undo_b89 : AllD (ib i12_undo) [(89, .iload_n 2, 1), (90, .bipush 40, 2), (92, .if_icmp .ge 25, 3), (95, .aload_n 0, 1), (96, .getfield 29, 3), (99, .iload_n 2, 1), (100, .aload_n 0, 1), (101, .getfield 35, 3), (104, .iload_n 1, 1), (105, .iconst 4, 1), (106, .iadd, 1), (107, .iload_n 2, 1), (108, .iadd, 1), (109, .iaload, 1), (110, .iastore, 1), (111, .iinc 2 1, 3), (114, .goto (-25), 3), (117, .iconst 1, 1), (118, .ireturn, 1)] := allD_of (by decide +kernel)
def f12_undo_b89_body (rc : MM → Nat → Int32 → Int32 → Option (Int32 × MM)) (M : MM) (a0 : Nat) (a1 : Int32) (a2 : Int32) : Option (Int32 × MM) :=
  if (40 : Int32) ≤ a2 then
    some ((1 : Int32), M)
  else
    aO M a0 12 <|
    aO M a0 12 <|
    aA M (mR M a0 22) 0 ((a1 + (4 : Int32)) + a2) <|
    aA M (mR M a0 17) 0 a2 <|
    bM (sI M (mR M a0 17) a2.toNatClampNeg (mI M (mR M a0 22) ((a1 + (4 : Int32)) + a2).toNatClampNeg)) fun M110 =>
    rc M110 a0 a1 (a2 + (1 : Int32))
def f12_undo_b89 : MM → Nat → Int32 → Int32 → Option (Int32 × MM) := LP4 (f12_undo_b89_body) FU
set_option maxRecDepth 4000 in
theorem T12_undo_b89 : ∀ (M : MM) (a0 : Nat) (a1 : Int32) (a2 : Int32), X Li i12_undo 89 [(0, vr a0), (1, vi a1), (2, vi a2)] [] M (f12_undo_b89 M a0 a1 a2) := by
  obtain ⟨d89, d90, d92, d95, d96, d99, d100, d101, d104, d105, d106, d107, d108, d109, d110, d111, d114, d117, d118, -⟩ := dd12_undo_b89
  refine LP4_i (P := fun M a0 a1 a2 o => X Li i12_undo 89 [(0, vr a0), (1, vi a1), (2, vi a2)] [] M o) (fun _ _ _ _ => X_none) (fun rc ih M a0 a1 a2 => ?_) FU
  unfold f12_undo_b89_body
  refine X_iloadn 2 d89 rfl ?_
  refine X_bipush k_b_40 d90 ?_
  refine X_icmp_ge (t := 117) d92 rfl (fun h92 => ?_) (fun h92 => ?_)
  · refine X_iconst k_i_1 d117 ?_
    exact X_zreturnc d118 rfl (by decide) rfl
  · refine X_aloadn 0 d95 rfl ?_
    refine X_getR d96 fg_x12_29 ?_
    refine X_iloadn 2 d99 rfl ?_
    refine X_aloadn 0 d100 rfl ?_
    refine X_getR d101 fg_x12_35 ?_
    refine X_iloadn 1 d104 rfl ?_
    refine X_iconst k_i_4 d105 ?_
    refine X_iadd d106 ?_
    refine X_iloadn 2 d107 rfl ?_
    refine X_iadd d108 ?_
    refine X_iaload d109 ?_
    refine X_iastore d110 ?_
    refine X_bM fun M110 _ => ?_
    refine X_inc (lv' := [(2, vi (a2 + (1 : Int32))), (0, vr a0), (1, vi a1)]) 2 d111 k_i_1 rfl (by decide) rfl ?_
    refine X_goto (t := 89) d114 rfl ?_
    refine X_sub [1, 2, 0] rfl ?_
    exact ih M110 a0 a1 (a2 + (1 : Int32))

theorem dd12_undo_b48 : AllD (ib i12_undo) [(48, .putfield 236, 3), (51, .aload_n 0, 1), (52, .aload_n 0, 1), (53, .getfield 35, 3), (56, .iload_n 1, 1), (57, .iconst 1, 1), (58, .iadd, 1), (59, .iaload, 1), (60, .putfield 252, 3), (63, .aload_n 0, 1), (64, .aload_n 0, 1), (65, .getfield 35, 3), (68, .iload_n 1, 1), (69, .iconst 2, 1), (70, .iadd, 1), (71, .iaload, 1), (72, .putfield 255, 3), (75, .aload_n 0, 1), (76, .aload_n 0, 1), (77, .getfield 35, 3), (80, .iload_n 1, 1), (81, .iconst 3, 1), (82, .iadd, 1), (83, .iaload, 1), (84, .invokevirtual 258, 3), (87, .iconst 0, 1), (88, .istore_n 2, 1)] := allD_of (by decide +kernel)
def f12_undo_b48 (M : MM) (a0 : Nat) (a1 : Int32) (s0 : Int32) (s1 : Nat) : Option (Int32 × MM) :=
  aO M s1 12 <|
  gd (s0 = 0 ∨ s0 = 1) <|
  bM (sI M s1 19 s0) fun M48 =>
  aO M48 a0 12 <|
  aA M48 (mR M48 a0 22) 0 (a1 + (1 : Int32)) <|
  aO M48 a0 12 <|
  bM (sI M48 a0 20 (mI M48 (mR M48 a0 22) (a1 + (1 : Int32)).toNatClampNeg)) fun M60 =>
  aO M60 a0 12 <|
  aA M60 (mR M60 a0 22) 0 (a1 + (2 : Int32)) <|
  aO M60 a0 12 <|
  bM (sI M60 a0 21 (mI M60 (mR M60 a0 22) (a1 + (2 : Int32)).toNatClampNeg)) fun M72 =>
  aO M72 a0 12 <|
  aA M72 (mR M72 a0 22) 0 (a1 + (3 : Int32)) <|
  aO M72 a0 12 <|
  cV (f12_outsAre M72 a0 (mI M72 (mR M72 a0 22) (a1 + (3 : Int32)).toNatClampNeg)) fun M84 =>
  f12_undo_b89 M84 a0 a1 (0 : Int32)
set_option maxRecDepth 4000 in
theorem T12_undo_b48 : ∀ (M : MM) (a0 : Nat) (a1 : Int32) (s0 : Int32) (s1 : Nat), X Li i12_undo 48 [(0, vr a0), (1, vi a1)] [vi s0, vr s1] M (f12_undo_b48 M a0 a1 s0 s1) := by
  obtain ⟨d48, d51, d52, d53, d56, d57, d58, d59, d60, d63, d64, d65, d68, d69, d70, d71, d72, d75, d76, d77, d80, d81, d82, d83, d84, d87, d88, -⟩ := dd12_undo_b48
  intro M a0 a1 s0 s1
  unfold f12_undo_b48
  refine X_putZ d48 fp_x12_236 ?_
  refine X_bM fun M48 _ => ?_
  refine X_aloadn 0 d51 rfl ?_
  refine X_aloadn 0 d52 rfl ?_
  refine X_getR d53 fg_x12_35 ?_
  refine X_iloadn 1 d56 rfl ?_
  refine X_iconst k_i_1 d57 ?_
  refine X_iadd d58 ?_
  refine X_iaload d59 ?_
  refine X_putI d60 fp_x12_252 ?_
  refine X_bM fun M60 _ => ?_
  refine X_aloadn 0 d63 rfl ?_
  refine X_aloadn 0 d64 rfl ?_
  refine X_getR d65 fg_x12_35 ?_
  refine X_iloadn 1 d68 rfl ?_
  refine X_iconst k_i_2 d69 ?_
  refine X_iadd d70 ?_
  refine X_iaload d71 ?_
  refine X_putI d72 fp_x12_255 ?_
  refine X_bM fun M72 _ => ?_
  refine X_aloadn 0 d75 rfl ?_
  refine X_aloadn 0 d76 rfl ?_
  refine X_getR d77 fg_x12_35 ?_
  refine X_iloadn 1 d80 rfl ?_
  refine X_iconst k_i_3 d81 ?_
  refine X_iadd d82 ?_
  refine X_iaload d83 ?_
  refine X_cVv (as := [vi (mI M72 (mR M72 a0 22) (a1 + (3 : Int32)).toNatClampNeg)]) d84 cv_x12_258 ⟨by decide, by decide⟩ rfl (Nat.le_of_ble_eq_true rfl) (T12_outsAre M72 a0 (mI M72 (mR M72 a0 22) (a1 + (3 : Int32)).toNatClampNeg)) (fun M84 _ => ?_)
  refine X_iconst k_i_0 d87 ?_
  refine X_istoren (lv' := [(2, vi (0 : Int32)), (0, vr a0), (1, vi a1)]) d88 (by decide) rfl ?_
  refine X_sub [1, 2, 0] rfl ?_
  exact T12_undo_b89 M84 a0 a1 (0 : Int32)

theorem dd12_undo : AllD (ib i12_undo) [(0, .aload_n 0, 1), (1, .iconst 0, 1), (2, .putfield 113, 3), (5, .aload_n 0, 1), (6, .getfield 240, 3), (9, .ifCond .ne 5, 3), (12, .iconst 0, 1), (13, .ireturn, 1), (14, .aload_n 0, 1), (15, .dup, 1), (16, .getfield 240, 3), (19, .iconst 1, 1), (20, .isub, 1), (21, .putfield 240, 3), (24, .bipush 44, 2), (26, .aload_n 0, 1), (27, .getfield 240, 3), (30, .imul, 1), (31, .istore_n 1, 1), (32, .aload_n 0, 1), (33, .aload_n 0, 1), (34, .getfield 35, 3), (37, .iload_n 1, 1), (38, .iaload, 1), (39, .iconst 1, 1), (40, .if_icmp .ne 7, 3), (43, .iconst 1, 1), (44, .goto 4, 3), (47, .iconst 0, 1)] := allD_of (by decide +kernel)
def f12_undo (M : MM) (a0 : Nat) : Option (Int32 × MM) :=
  aO M a0 12 <|
  bM (sI M a0 0 (0 : Int32)) fun M2 =>
  aO M2 a0 12 <|
  if (mI M2 a0 23) = 0 then
    some ((0 : Int32), M2)
  else
    aO M2 a0 12 <|
    aO M2 a0 12 <|
    bM (sI M2 a0 23 ((mI M2 a0 23) - (1 : Int32))) fun M21 =>
    aO M21 a0 12 <|
    bW ((44 : Int32) * (mI M21 a0 23)) fun v31 =>
    aO M21 a0 12 <|
    aA M21 (mR M21 a0 22) 0 v31 <|
    if (mI M21 (mR M21 a0 22) v31.toNatClampNeg) = (1 : Int32) then
      f12_undo_b48 M21 a0 v31 (1 : Int32) a0
    else
      f12_undo_b48 M21 a0 v31 (0 : Int32) a0
set_option maxRecDepth 4000 in
theorem T12_undo (M : MM) (a0 : Nat) : ∀ q, f12_undo M a0 = some q → Run i12_undo [vr a0] M (Li q) := by
  obtain ⟨d0, d1, d2, d5, d6, d9, d12, d13, d14, d15, d16, d19, d20, d21, d24, d26, d27, d30, d31, d32, d33, d34, d37, d38, d39, d40, d43, d44, d47, -⟩ := dd12_undo
  refine Run_of_X (by decide) (Nat.le_of_ble_eq_true rfl) ?_
  show X Li i12_undo 0 [(0, vr a0)] [] M _
  unfold f12_undo
  refine X_aloadn 0 d0 rfl ?_
  refine X_iconst k_i_0 d1 ?_
  refine X_putI d2 fp_x12_113 ?_
  refine X_bM fun M2 _ => ?_
  refine X_aloadn 0 d5 rfl ?_
  refine X_getI d6 fg_x12_240 ?_
  refine X_if_ne (t := 14) d9 rfl (fun h9 => ?_) (fun h9 => ?_)
  · refine X_iconst k_i_0 d12 ?_
    exact X_zreturnc d13 rfl (by decide) rfl
  · refine X_aloadn 0 d14 rfl ?_
    refine X_dupr d15 ?_
    refine X_getI d16 fg_x12_240 ?_
    refine X_iconst k_i_1 d19 ?_
    refine X_isub d20 ?_
    refine X_putI d21 fp_x12_240 ?_
    refine X_bM fun M21 _ => ?_
    refine X_bipush k_b_44 d24 ?_
    refine X_aloadn 0 d26 rfl ?_
    refine X_getI d27 fg_x12_240 ?_
    refine X_imul d30 ?_
    refine X_bWi fun v31 _ => ?_
    refine X_istoren (lv' := [(1, vi v31), (0, vr a0)]) d31 (by decide) rfl ?_
    refine X_aloadn 1 d32 rfl ?_
    refine X_aloadn 1 d33 rfl ?_
    refine X_getR d34 fg_x12_35 ?_
    refine X_iloadn 0 d37 rfl ?_
    refine X_iaload d38 ?_
    refine X_iconst k_i_1 d39 ?_
    refine X_icmp_ne (t := 47) d40 rfl (fun h40 => ?_) (fun h40 => ?_)
    · refine X_iconst k_i_1 d43 ?_
      refine X_goto (t := 48) d44 rfl ?_
      refine X_sub [1, 0] rfl ?_
      exact T12_undo_b48 M21 a0 v31 (1 : Int32) a0
    · refine X_iconst k_i_0 d47 ?_
      refine X_sub [1, 0] rfl ?_
      exact T12_undo_b48 M21 a0 v31 (0 : Int32) a0

theorem dd12_way : AllD (ib i12_way) [(0, .aload_n 0, 1), (1, .iconst 0, 1), (2, .putfield 113, 3), (5, .aload_n 0, 1), (6, .invokevirtual 342, 3), (9, .lstore_n 2, 1), (10, .lload_n 2, 1), (11, .lconst 0, 1), (12, .lcmp, 1), (13, .ifCond .ge 5, 3), (16, .iconst (-1), 1), (17, .ireturn, 1), (18, .aload_n 0, 1), (19, .lload_n 2, 1), (20, .invokevirtual 346, 3), (23, .ifCond .ne 6, 3), (26, .bipush (-2), 2), (28, .ireturn, 1), (29, .iload_n 1, 1), (30, .iconst (-1), 1), (31, .if_icmp .ne 10, 3), (34, .aload_n 0, 1), (35, .getfield 333, 3), (38, .goto 27, 3), (41, .iload_n 1, 1), (42, .iconst 0, 1), (43, .aload_n 0, 1), (44, .getfield 333, 3), (47, .iconst 1, 1), (48, .isub, 1), (49, .invokestatic 124, 3), (52, .ifCond .eq 12, 3), (55, .aload_n 0, 1), (56, .getfield 63, 3), (59, .iload_n 1, 1), (60, .iaload, 1), (61, .goto 4, 3), (64, .iconst (-1), 1), (65, .ireturn, 1)] := allD_of (by decide +kernel)
def f12_way (M : MM) (a0 : Nat) (a1 : Int32) : Option (Int32 × MM) :=
  aO M a0 12 <|
  bM (sI M a0 0 (0 : Int32)) fun M2 =>
  aO M2 a0 12 <|
  cJ (f12_cost M2 a0) fun r6 M6 =>
  if (0 : Int64) ≤ r6 then
    aO M6 a0 12 <|
    cI (f12_isWay M6 a0 r6) fun r20 M20 =>
    if r20 = 0 then
      some ((-2 : Int32), M20)
    else
      if a1 = (-1 : Int32) then
        aO M20 a0 12 <|
        some (mI M20 a0 36, M20)
      else
        aO M20 a0 12 <|
        cI (f12_in M20 a1 (0 : Int32) ((mI M20 a0 36) - (1 : Int32))) fun r49 M49 =>
        if r49 = 0 then
          some ((-1 : Int32), M49)
        else
          aO M49 a0 12 <|
          aA M49 (mR M49 a0 34) 0 a1 <|
          some (mI M49 (mR M49 a0 34) a1.toNatClampNeg, M49)
  else
    some ((-1 : Int32), M6)
set_option maxRecDepth 4000 in
theorem T12_way (M : MM) (a0 : Nat) (a1 : Int32) : ∀ q, f12_way M a0 a1 = some q → Run i12_way [vr a0, vi a1] M (Li q) := by
  obtain ⟨d0, d1, d2, d5, d6, d9, d10, d11, d12, d13, d16, d17, d18, d19, d20, d23, d26, d28, d29, d30, d31, d34, d35, d38, d41, d42, d43, d44, d47, d48, d49, d52, d55, d56, d59, d60, d61, d64, d65, -⟩ := dd12_way
  refine Run_of_X (by decide) (Nat.le_of_ble_eq_true rfl) ?_
  show X Li i12_way 0 [(0, vr a0), (1, vi a1)] [] M _
  unfold f12_way
  refine X_aloadn 0 d0 rfl ?_
  refine X_iconst k_i_0 d1 ?_
  refine X_putI d2 fp_x12_113 ?_
  refine X_bM fun M2 _ => ?_
  refine X_aloadn 0 d5 rfl ?_
  refine X_cVl (as := []) d6 cv_x12_342 ⟨by decide, by decide⟩ rfl (Nat.le_of_ble_eq_true rfl) (T12_cost M2 a0) (fun r6 M6 _ => ?_)
  refine X_lstoren (lv' := [(2, vl r6), (0, vr a0), (1, vi a1)]) d9 (by decide) rfl ?_
  refine X_lloadn 0 d10 rfl ?_
  refine X_lconst k_l_0 d11 ?_
  refine X_lif_ge (t := 18) d12 d13 rfl (fun h12 => ?_) (fun h12 => ?_)
  · refine X_aloadn 1 d18 rfl ?_
    refine X_lloadn 0 d19 rfl ?_
    refine X_cVi (as := [vl r6]) d20 cv_x12_346 ⟨by decide, by decide⟩ rfl (Nat.le_of_ble_eq_true rfl) (T12_isWay M6 a0 r6) (fun r20 M20 _ => ?_)
    refine X_if_ne (t := 29) d23 rfl (fun h23 => ?_) (fun h23 => ?_)
    · refine X_bipush k_b_m2 d26 ?_
      exact X_ireturn d28 rfl rfl
    · refine X_iloadn 2 d29 rfl ?_
      refine X_iconst k_i_m1 d30 ?_
      refine X_icmp_ne (t := 41) d31 rfl (fun h31 => ?_) (fun h31 => ?_)
      · refine X_aloadn 1 d34 rfl ?_
        refine X_getI d35 fg_x12_333 ?_
        refine X_goto (t := 65) d38 rfl ?_
        exact X_ireturn d65 rfl rfl
      · refine X_iloadn 2 d41 rfl ?_
        refine X_iconst k_i_0 d42 ?_
        refine X_aloadn 1 d43 rfl ?_
        refine X_getI d44 fg_x12_333 ?_
        refine X_iconst k_i_1 d47 ?_
        refine X_isub d48 ?_
        refine X_cSi (as := [vi a1, vi (0 : Int32), vi ((mI M20 a0 36) - (1 : Int32))]) d49 cs_x12_124 ⟨by decide, by decide⟩ rfl (Nat.le_of_ble_eq_true rfl) (T12_in M20 a1 (0 : Int32) ((mI M20 a0 36) - (1 : Int32))) (fun r49 M49 _ => ?_)
        refine X_if_eq (t := 64) d52 rfl (fun h52 => ?_) (fun h52 => ?_)
        · refine X_iconst k_i_m1 d64 ?_
          exact X_ireturn d65 rfl rfl
        · refine X_aloadn 1 d55 rfl ?_
          refine X_getR d56 fg_x12_63 ?_
          refine X_iloadn 2 d59 rfl ?_
          refine X_iaload d60 ?_
          refine X_goto (t := 65) d61 rfl ?_
          exact X_ireturn d65 rfl rfl
  · refine X_iconst k_i_m1 d16 ?_
    exact X_ireturn d17 rfl rfl

