/-! printed by program: methods as functions, and that the bytecode does what they tell -/
theorem dd5_setNumber_b87 : AllD (ib i5_setNumber) [(87, .aload_n 0, 1), (88, .getfield 25, 3), (91, .aload_n 0, 1), (92, .getfield 69, 3), (95, .iload_n 1, 1), (96, .invokevirtual 102, 3), (99, .aload_n 0, 1), (100, .getfield 28, 3), (103, .aload_n 0, 1), (104, .getfield 69, 3), (107, .aload_n 0, 1), (108, .getfield 22, 3), (111, .iload_n 2, 1), (112, .invokevirtual 95, 3), (115, .invokevirtual 102, 3), (118, .aload_n 0, 1), (119, .getfield 22, 3), (122, .iload_n 2, 1), (123, .aload_n 0, 1), (124, .getfield 69, 3), (127, .invokevirtual 102, 3), (130, .aload_n 0, 1), (131, .dup, 1), (132, .getfield 69, 3), (135, .iconst 1, 1), (136, .iadd, 1), (137, .putfield 69, 3), (140, .aload_n 0, 1), (141, .getfield 69, 3), (144, .iconst 1, 1), (145, .isub, 1), (146, .ireturn, 1)] := allD_of (by decide +kernel)
def f5_setNumber_b87 (M : MM) (a0 : Nat) (a1 : Int32) (a2 : Int32) : Option (Int32 × MM) :=
  aO M a0 5 <|
  aO M a0 5 <|
  aO M (mR M a0 2) 3 <|
  cV (f3_set M (mR M a0 2) (mI M a0 15) a1) fun M96 =>
  aO M96 a0 5 <|
  aO M96 a0 5 <|
  aO M96 a0 5 <|
  aO M96 (mR M96 a0 1) 3 <|
  cI (f3_get M96 (mR M96 a0 1) a2) fun r112 M112 =>
  aO M112 (mR M96 a0 3) 3 <|
  cV (f3_set M112 (mR M96 a0 3) (mI M96 a0 15) r112) fun M115 =>
  aO M115 a0 5 <|
  aO M115 a0 5 <|
  aO M115 (mR M115 a0 1) 3 <|
  cV (f3_set M115 (mR M115 a0 1) a2 (mI M115 a0 15)) fun M127 =>
  aO M127 a0 5 <|
  aO M127 a0 5 <|
  bM (sI M127 a0 15 ((mI M127 a0 15) + (1 : Int32))) fun M137 =>
  aO M137 a0 5 <|
  some ((mI M137 a0 15) - (1 : Int32), M137)
set_option maxRecDepth 4000 in
theorem T5_setNumber_b87 : ∀ (M : MM) (a0 : Nat) (a1 : Int32) (a2 : Int32), X Li i5_setNumber 87 [(0, vr a0), (1, vi a1), (2, vi a2)] [] M (f5_setNumber_b87 M a0 a1 a2) := by
  obtain ⟨d87, d88, d91, d92, d95, d96, d99, d100, d103, d104, d107, d108, d111, d112, d115, d118, d119, d122, d123, d124, d127, d130, d131, d132, d135, d136, d137, d140, d141, d144, d145, d146, -⟩ := dd5_setNumber_b87
  intro M a0 a1 a2
  unfold f5_setNumber_b87
  refine X_aloadn 0 d87 rfl ?_
  refine X_getR d88 fg_x5_25 ?_
  refine X_aloadn 0 d91 rfl ?_
  refine X_getI d92 fg_x5_69 ?_
  refine X_iloadn 1 d95 rfl ?_
  refine X_cVv (as := [vi (mI M a0 15), vi a1]) d96 cv_x5_102 ⟨by decide, by decide⟩ rfl (Nat.le_of_ble_eq_true rfl) (T3_set M (mR M a0 2) (mI M a0 15) a1) (fun M96 _ => ?_)
  refine X_aloadn 0 d99 rfl ?_
  refine X_getR d100 fg_x5_28 ?_
  refine X_aloadn 0 d103 rfl ?_
  refine X_getI d104 fg_x5_69 ?_
  refine X_aloadn 0 d107 rfl ?_
  refine X_getR d108 fg_x5_22 ?_
  refine X_iloadn 2 d111 rfl ?_
  refine X_cVi (as := [vi a2]) d112 cv_x5_95 ⟨by decide, by decide⟩ rfl (Nat.le_of_ble_eq_true rfl) (T3_get M96 (mR M96 a0 1) a2) (fun r112 M112 _ => ?_)
  refine X_cVv (as := [vi (mI M96 a0 15), vi r112]) d115 cv_x5_102 ⟨by decide, by decide⟩ rfl (Nat.le_of_ble_eq_true rfl) (T3_set M112 (mR M96 a0 3) (mI M96 a0 15) r112) (fun M115 _ => ?_)
  refine X_aloadn 0 d118 rfl ?_
  refine X_getR d119 fg_x5_22 ?_
  refine X_iloadn 2 d122 rfl ?_
  refine X_aloadn 0 d123 rfl ?_
  refine X_getI d124 fg_x5_69 ?_
  refine X_cVv (as := [vi a2, vi (mI M115 a0 15)]) d127 cv_x5_102 ⟨by decide, by decide⟩ rfl (Nat.le_of_ble_eq_true rfl) (T3_set M115 (mR M115 a0 1) a2 (mI M115 a0 15)) (fun M127 _ => ?_)
  refine X_aloadn 0 d130 rfl ?_
  refine X_dupr d131 ?_
  refine X_getI d132 fg_x5_69 ?_
  refine X_iconst k_i_1 d135 ?_
  refine X_iadd d136 ?_
  refine X_putI d137 fp_x5_69 ?_
  refine X_bM fun M137 _ => ?_
  refine X_aloadn 0 d140 rfl ?_
  refine X_getI d141 fg_x5_69 ?_
  refine X_iconst k_i_1 d144 ?_
  refine X_isub d145 ?_
  exact X_ireturn d146 rfl rfl

theorem dd5_setNumber_b60 : AllD (ib i5_setNumber) [(60, .aload_n 0, 1), (61, .getfield 69, 3), (64, .sipush 2340, 3), (67, .if_icmp .lt 5, 3), (70, .iconst (-1), 1), (71, .ireturn, 1), (72, .aload_n 0, 1), (73, .getfield 69, 3), (76, .aload_n 0, 1), (77, .getfield 59, 3), (80, .if_icmp .lt 7, 3), (83, .aload_n 0, 1), (84, .invokevirtual 119, 3)] := allD_of (by decide +kernel)
def f5_setNumber_b60 (M : MM) (a0 : Nat) (a1 : Int32) (a2 : Int32) : Option (Int32 × MM) :=
  aO M a0 5 <|
  if (mI M a0 15) < (2340 : Int32) then
    aO M a0 5 <|
    aO M a0 5 <|
    if (mI M a0 15) < (mI M a0 12) then
      f5_setNumber_b87 M a0 a1 a2
    else
      aO M a0 5 <|
      cV (f5_widen M a0) fun M84 =>
      f5_setNumber_b87 M84 a0 a1 a2
  else
    some ((-1 : Int32), M)
set_option maxRecDepth 4000 in
theorem T5_setNumber_b60 : ∀ (M : MM) (a0 : Nat) (a1 : Int32) (a2 : Int32), X Li i5_setNumber 60 [(0, vr a0), (1, vi a1), (2, vi a2)] [] M (f5_setNumber_b60 M a0 a1 a2) := by
  obtain ⟨d60, d61, d64, d67, d70, d71, d72, d73, d76, d77, d80, d83, d84, -⟩ := dd5_setNumber_b60
  intro M a0 a1 a2
  unfold f5_setNumber_b60
  refine X_aloadn 0 d60 rfl ?_
  refine X_getI d61 fg_x5_69 ?_
  refine X_sipush k_s_2340 d64 ?_
  refine X_icmp_lt (t := 72) d67 rfl (fun h67 => ?_) (fun h67 => ?_)
  · refine X_aloadn 0 d72 rfl ?_
    refine X_getI d73 fg_x5_69 ?_
    refine X_aloadn 0 d76 rfl ?_
    refine X_getI d77 fg_x5_59 ?_
    refine X_icmp_lt (t := 87) d80 rfl (fun h80 => ?_) (fun h80 => ?_)
    · exact T5_setNumber_b87 M a0 a1 a2
    · refine X_aloadn 0 d83 rfl ?_
      refine X_cVv (as := []) d84 cv_x5_119 ⟨by decide, by decide⟩ rfl (Nat.le_of_ble_eq_true rfl) (T5_widen M a0) (fun M84 _ => ?_)
      exact T5_setNumber_b87 M84 a0 a1 a2
  · refine X_iconst k_i_m1 d70 ?_
    exact X_ireturn d71 rfl rfl

theorem dd5_setNumber_b17 : AllD (ib i5_setNumber) [(17, .iload 4, 2), (19, .aload_n 0, 1), (20, .getfield 69, 3), (23, .if_icmp .ge 37, 3), (26, .iload_n 3, 1), (27, .iconst (-1), 1), (28, .if_icmp .eq 32, 3), (31, .aload_n 0, 1), (32, .getfield 25, 3), (35, .iload_n 3, 1), (36, .invokevirtual 95, 3), (39, .iload_n 1, 1), (40, .if_icmp .ne 5, 3), (43, .iload_n 3, 1), (44, .ireturn, 1), (45, .aload_n 0, 1), (46, .getfield 28, 3), (49, .iload_n 3, 1), (50, .invokevirtual 95, 3), (53, .istore_n 3, 1), (54, .iinc 4 1, 3), (57, .goto (-40), 3)] := allD_of (by decide +kernel)
def f5_setNumber_b17_body (rc : MM → Nat → Int32 → Int32 → Int32 → Int32 → Option (Int32 × MM)) (M : MM) (a0 : Nat) (a1 : Int32) (a2 : Int32) (a3 : Int32) (a4 : Int32) : Option (Int32 × MM) :=
  aO M a0 5 <|
  if (mI M a0 15) ≤ a4 then
    f5_setNumber_b60 M a0 a1 a2
  else
    if a3 = (-1 : Int32) then
      f5_setNumber_b60 M a0 a1 a2
    else
      aO M a0 5 <|
      aO M (mR M a0 2) 3 <|
      cI (f3_get M (mR M a0 2) a3) fun r36 M36 =>
      if r36 = a1 then
        some (a3, M36)
      else
        aO M36 a0 5 <|
        aO M36 (mR M36 a0 3) 3 <|
        cI (f3_get M36 (mR M36 a0 3) a3) fun r50 M50 =>
        rc M50 a0 a1 a2 r50 (a4 + (1 : Int32))
def f5_setNumber_b17 : MM → Nat → Int32 → Int32 → Int32 → Int32 → Option (Int32 × MM) := LP6 (f5_setNumber_b17_body) FU
set_option maxRecDepth 4000 in
theorem T5_setNumber_b17 : ∀ (M : MM) (a0 : Nat) (a1 : Int32) (a2 : Int32) (a3 : Int32) (a4 : Int32), X Li i5_setNumber 17 [(0, vr a0), (1, vi a1), (2, vi a2), (3, vi a3), (4, vi a4)] [] M (f5_setNumber_b17 M a0 a1 a2 a3 a4) := by
  obtain ⟨d17, d19, d20, d23, d26, d27, d28, d31, d32, d35, d36, d39, d40, d43, d44, d45, d46, d49, d50, d53, d54, d57, -⟩ := dd5_setNumber_b17
  refine LP6_i (P := fun M a0 a1 a2 a3 a4 o => X Li i5_setNumber 17 [(0, vr a0), (1, vi a1), (2, vi a2), (3, vi a3), (4, vi a4)] [] M o) (fun _ _ _ _ _ _ => X_none) (fun rc ih M a0 a1 a2 a3 a4 => ?_) FU
  unfold f5_setNumber_b17_body
  refine X_iload 4 d17 rfl ?_
  refine X_aloadn 0 d19 rfl ?_
  refine X_getI d20 fg_x5_69 ?_
  refine X_icmp_ge (t := 60) d23 rfl (fun h23 => ?_) (fun h23 => ?_)
  · refine X_sub [0, 1, 2] rfl ?_
    exact T5_setNumber_b60 M a0 a1 a2
  · refine X_iloadn 3 d26 rfl ?_
    refine X_iconst k_i_m1 d27 ?_
    refine X_icmp_eq (t := 60) d28 rfl (fun h28 => ?_) (fun h28 => ?_)
    · refine X_sub [0, 1, 2] rfl ?_
      exact T5_setNumber_b60 M a0 a1 a2
    · refine X_aloadn 0 d31 rfl ?_
      refine X_getR d32 fg_x5_25 ?_
      refine X_iloadn 3 d35 rfl ?_
      refine X_cVi (as := [vi a3]) d36 cv_x5_95 ⟨by decide, by decide⟩ rfl (Nat.le_of_ble_eq_true rfl) (T3_get M (mR M a0 2) a3) (fun r36 M36 _ => ?_)
      refine X_iloadn 1 d39 rfl ?_
      refine X_icmp_ne (t := 45) d40 rfl (fun h40 => ?_) (fun h40 => ?_)
      · refine X_iloadn 3 d43 rfl ?_
        exact X_ireturn d44 rfl rfl
      · refine X_aloadn 0 d45 rfl ?_
        refine X_getR d46 fg_x5_28 ?_
        refine X_iloadn 3 d49 rfl ?_
        refine X_cVi (as := [vi a3]) d50 cv_x5_95 ⟨by decide, by decide⟩ rfl (Nat.le_of_ble_eq_true rfl) (T3_get M36 (mR M36 a0 3) a3) (fun r50 M50 _ => ?_)
        refine X_istoren (lv' := [(3, vi r50), (0, vr a0), (1, vi a1), (2, vi a2), (4, vi a4)]) d53 (by decide) rfl ?_
        refine X_inc (lv' := [(4, vi (a4 + (1 : Int32))), (3, vi r50), (0, vr a0), (1, vi a1), (2, vi a2)]) 4 d54 k_i_1 rfl (by decide) rfl ?_
        refine X_goto (t := 17) d57 rfl ?_
        refine X_sub [2, 3, 4, 1, 0] rfl ?_
        exact ih M50 a0 a1 a2 r50 (a4 + (1 : Int32))

theorem dd5_setNumber : AllD (ib i5_setNumber) [(0, .iload_n 1, 1), (1, .invokestatic 116, 3), (4, .istore_n 2, 1), (5, .aload_n 0, 1), (6, .getfield 22, 3), (9, .iload_n 2, 1), (10, .invokevirtual 95, 3), (13, .istore_n 3, 1), (14, .iconst 0, 1), (15, .istore 4, 2)] := allD_of (by decide +kernel)
def f5_setNumber (M : MM) (a0 : Nat) (a1 : Int32) : Option (Int32 × MM) :=
  cI (f5_bucketOf M a1) fun r1 M1 =>
  aO M1 a0 5 <|
  aO M1 (mR M1 a0 1) 3 <|
  cI (f3_get M1 (mR M1 a0 1) r1) fun r10 M10 =>
  f5_setNumber_b17 M10 a0 a1 r1 r10 (0 : Int32)
set_option maxRecDepth 4000 in
theorem T5_setNumber (M : MM) (a0 : Nat) (a1 : Int32) : ∀ q, f5_setNumber M a0 a1 = some q → Run i5_setNumber [vr a0, vi a1] M (Li q) := by
  obtain ⟨d0, d1, d4, d5, d6, d9, d10, d13, d14, d15, -⟩ := dd5_setNumber
  refine Run_of_X (by decide) (Nat.le_of_ble_eq_true rfl) ?_
  show X Li i5_setNumber 0 [(0, vr a0), (1, vi a1)] [] M _
  unfold f5_setNumber
  refine X_iloadn 1 d0 rfl ?_
  refine X_cSi (as := [vi a1]) d1 cs_x5_116 ⟨by decide, by decide⟩ rfl (Nat.le_of_ble_eq_true rfl) (T5_bucketOf M a1) (fun r1 M1 _ => ?_)
  refine X_istoren (lv' := [(2, vi r1), (0, vr a0), (1, vi a1)]) d4 (by decide) rfl ?_
  refine X_aloadn 1 d5 rfl ?_
  refine X_getR d6 fg_x5_22 ?_
  refine X_iloadn 0 d9 rfl ?_
  refine X_cVi (as := [vi r1]) d10 cv_x5_95 ⟨by decide, by decide⟩ rfl (Nat.le_of_ble_eq_true rfl) (T3_get M1 (mR M1 a0 1) r1) (fun r10 M10 _ => ?_)
  refine X_istoren (lv' := [(3, vi r10), (2, vi r1), (0, vr a0), (1, vi a1)]) d13 (by decide) rfl ?_
  refine X_iconst k_i_0 d14 ?_
  refine X_istore (lv' := [(4, vi (0 : Int32)), (3, vi r10), (2, vi r1), (0, vr a0), (1, vi a1)]) d15 (by decide) rfl ?_
  refine X_sub [3, 4, 2, 1, 0] rfl ?_
  exact T5_setNumber_b17 M10 a0 a1 r1 r10 (0 : Int32)

theorem dd5_setBehind_b39 : AllD (ib i5_setBehind) [(39, .iinc 4 1, 3), (42, .goto (-37), 3)] := allD_of (by decide +kernel)
def f5_setBehind_b39 (K5 : MM → Nat → Int32 → Int32 → Int32 → Int32 → Option (Int32 × MM)) (M : MM) (a0 : Nat) (a1 : Int32) (a2 : Int32) (a3 : Int32) (a4 : Int32) : Option (Int32 × MM) :=
  K5 M a0 a1 a2 a3 (a4 + (1 : Int32))
set_option maxRecDepth 4000 in
theorem T5_setBehind_b39 {K5 : MM → Nat → Int32 → Int32 → Int32 → Int32 → Option (Int32 × MM)} (hK5 : ∀ (M : MM) (a0 : Nat) (a1 : Int32) (a2 : Int32) (a3 : Int32) (a4 : Int32), X Li i5_setBehind 5 [(0, vr a0), (1, vi a1), (2, vi a2), (3, vi a3), (4, vi a4)] [] M (K5 M a0 a1 a2 a3 a4)) : ∀ (M : MM) (a0 : Nat) (a1 : Int32) (a2 : Int32) (a3 : Int32) (a4 : Int32), X Li i5_setBehind 39 [(0, vr a0), (1, vi a1), (2, vi a2), (3, vi a3), (4, vi a4)] [] M (f5_setBehind_b39 K5 M a0 a1 a2 a3 a4) := by
  obtain ⟨d39, d42, -⟩ := dd5_setBehind_b39
  intro M a0 a1 a2 a3 a4
  unfold f5_setBehind_b39
  refine X_inc (lv' := [(4, vi (a4 + (1 : Int32))), (0, vr a0), (1, vi a1), (2, vi a2), (3, vi a3)]) 4 d39 k_i_1 rfl (by decide) rfl ?_
  refine X_goto (t := 5) d42 rfl ?_
  refine X_sub [1, 2, 3, 4, 0] rfl ?_
  exact hK5 M a0 a1 a2 a3 (a4 + (1 : Int32))

theorem dd5_setBehind_b5 : AllD (ib i5_setBehind) [(5, .iload 4, 2), (7, .bipush 15, 2), (9, .if_icmp .ge 36, 3), (12, .iload_n 1, 1), (13, .iload 4, 2), (15, .iushr, 1), (16, .iconst 1, 1), (17, .iand, 1), (18, .iconst 1, 1), (19, .if_icmp .ne 20, 3), (22, .iload_n 3, 1), (23, .aload_n 0, 1), (24, .getfield 16, 3), (27, .iload 4, 2), (29, .bipush 6, 2), (31, .imul, 1), (32, .iload_n 2, 1), (33, .iadd, 1), (34, .invokevirtual 95, 3), (37, .ior, 1), (38, .istore_n 3, 1), (45, .bipush 32, 2), (47, .istore 4, 2), (49, .iload_n 3, 1), (50, .iload 4, 2), (52, .iand, 1), (53, .ifCond .eq 8, 3), (56, .iload 4, 2), (58, .goto 4, 3), (61, .iload_n 3, 1), (62, .ireturn, 1)] := allD_of (by decide +kernel)
def f5_setBehind_b5_body (rc : MM → Nat → Int32 → Int32 → Int32 → Int32 → Option (Int32 × MM)) (M : MM) (a0 : Nat) (a1 : Int32) (a2 : Int32) (a3 : Int32) (a4 : Int32) : Option (Int32 × MM) :=
  if (15 : Int32) ≤ a4 then
    if (a3 &&& (32 : Int32)) = 0 then
      some (a3, M)
    else
      some ((32 : Int32), M)
  else
    if ((ushr a1 a4) &&& (1 : Int32)) = (1 : Int32) then
      aO M a0 5 <|
      aO M (mR M a0 0) 3 <|
      cI (f3_get M (mR M a0 0) ((a4 * (6 : Int32)) + a2)) fun r34 M34 =>
      bW (a3 ||| r34) fun v38 =>
      (f5_setBehind_b39 rc) M34 a0 a1 a2 v38 a4
    else
      (f5_setBehind_b39 rc) M a0 a1 a2 a3 a4
def f5_setBehind_b5 : MM → Nat → Int32 → Int32 → Int32 → Int32 → Option (Int32 × MM) := LP6 (f5_setBehind_b5_body) FU
set_option maxRecDepth 4000 in
theorem T5_setBehind_b5 : ∀ (M : MM) (a0 : Nat) (a1 : Int32) (a2 : Int32) (a3 : Int32) (a4 : Int32), X Li i5_setBehind 5 [(0, vr a0), (1, vi a1), (2, vi a2), (3, vi a3), (4, vi a4)] [] M (f5_setBehind_b5 M a0 a1 a2 a3 a4) := by
  obtain ⟨d5, d7, d9, d12, d13, d15, d16, d17, d18, d19, d22, d23, d24, d27, d29, d31, d32, d33, d34, d37, d38, d45, d47, d49, d50, d52, d53, d56, d58, d61, d62, -⟩ := dd5_setBehind_b5
  refine LP6_i (P := fun M a0 a1 a2 a3 a4 o => X Li i5_setBehind 5 [(0, vr a0), (1, vi a1), (2, vi a2), (3, vi a3), (4, vi a4)] [] M o) (fun _ _ _ _ _ _ => X_none) (fun rc ih M a0 a1 a2 a3 a4 => ?_) FU
  unfold f5_setBehind_b5_body
  refine X_iload 4 d5 rfl ?_
  refine X_bipush k_b_15 d7 ?_
  refine X_icmp_ge (t := 45) d9 rfl (fun h9 => ?_) (fun h9 => ?_)
  · refine X_bipush k_b_32 d45 ?_
    refine X_istore (lv' := [(4, vi (32 : Int32)), (0, vr a0), (1, vi a1), (2, vi a2), (3, vi a3)]) d47 (by decide) rfl ?_
    refine X_iloadn 4 d49 rfl ?_
    refine X_iload 0 d50 rfl ?_
    refine X_iand d52 ?_
    refine X_if_eq (t := 61) d53 rfl (fun h53 => ?_) (fun h53 => ?_)
    · refine X_iloadn 4 d61 rfl ?_
      exact X_ireturn d62 rfl rfl
    · refine X_iload 0 d56 rfl ?_
      refine X_goto (t := 62) d58 rfl ?_
      exact X_ireturn d62 rfl rfl
  · refine X_iloadn 1 d12 rfl ?_
    refine X_iload 4 d13 rfl ?_
    refine X_iushr d15 ?_
    refine X_iconst k_i_1 d16 ?_
    refine X_iand d17 ?_
    refine X_iconst k_i_1 d18 ?_
    refine X_icmp_ne (t := 39) d19 rfl (fun h19 => ?_) (fun h19 => ?_)
    · refine X_iloadn 3 d22 rfl ?_
      refine X_aloadn 0 d23 rfl ?_
      refine X_getR d24 fg_x5_16 ?_
      refine X_iload 4 d27 rfl ?_
      refine X_bipush k_b_6 d29 ?_
      refine X_imul d31 ?_
      refine X_iloadn 2 d32 rfl ?_
      refine X_iadd d33 ?_
      refine X_cVi (as := [vi ((a4 * (6 : Int32)) + a2)]) d34 cv_x5_95 ⟨by decide, by decide⟩ rfl (Nat.le_of_ble_eq_true rfl) (T3_get M (mR M a0 0) ((a4 * (6 : Int32)) + a2)) (fun r34 M34 _ => ?_)
      refine X_ior d37 ?_
      refine X_bWi fun v38 _ => ?_
      refine X_istoren (lv' := [(3, vi v38), (0, vr a0), (1, vi a1), (2, vi a2), (4, vi a4)]) d38 (by decide) rfl ?_
      refine X_sub [1, 2, 3, 0, 4] rfl ?_
      exact (T5_setBehind_b39 ih) M34 a0 a1 a2 v38 a4
    · exact (T5_setBehind_b39 ih) M a0 a1 a2 a3 a4

theorem dd5_setBehind : AllD (ib i5_setBehind) [(0, .iconst 0, 1), (1, .istore_n 3, 1), (2, .iconst 0, 1), (3, .istore 4, 2)] := allD_of (by decide +kernel)
def f5_setBehind (M : MM) (a0 : Nat) (a1 : Int32) (a2 : Int32) : Option (Int32 × MM) :=
  f5_setBehind_b5 M a0 a1 a2 (0 : Int32) (0 : Int32)
set_option maxRecDepth 4000 in
theorem T5_setBehind (M : MM) (a0 : Nat) (a1 : Int32) (a2 : Int32) : ∀ q, f5_setBehind M a0 a1 a2 = some q → Run i5_setBehind [vr a0, vi a1, vi a2] M (Li q) := by
  obtain ⟨d0, d1, d2, d3, -⟩ := dd5_setBehind
  refine Run_of_X (by decide) (Nat.le_of_ble_eq_true rfl) ?_
  show X Li i5_setBehind 0 [(0, vr a0), (1, vi a1), (2, vi a2)] [] M _
  unfold f5_setBehind
  refine X_iconst k_i_0 d0 ?_
  refine X_istoren (lv' := [(3, vi (0 : Int32)), (0, vr a0), (1, vi a1), (2, vi a2)]) d1 (by decide) rfl ?_
  refine X_iconst k_i_0 d2 ?_
  refine X_istore (lv' := [(4, vi (0 : Int32)), (3, vi (0 : Int32)), (0, vr a0), (1, vi a1), (2, vi a2)]) d3 (by decide) rfl ?_
  refine X_sub [2, 3, 4, 1, 0] rfl ?_
  exact T5_setBehind_b5 M a0 a1 a2 (0 : Int32) (0 : Int32)

theorem dd5_build_b75 : AllD (ib i5_build) [(75, .iload 4, 2), (77, .aload_n 0, 1), (78, .getfield 66, 3), (81, .if_icmp .ge 41, 3), (84, .aload_n 0, 1), (85, .getfield 31, 3), (88, .iload_n 3, 1), (89, .bipush 6, 2), (91, .imul, 1), (92, .iload 4, 2), (94, .iadd, 1), (95, .aload_n 0, 1), (96, .aload_n 0, 1), (97, .aload_n 0, 1), (98, .getfield 25, 3), (101, .iload_n 3, 1), (102, .invokevirtual 95, 3), (105, .iload 4, 2), (107, .invokevirtual 98, 3), (110, .invokevirtual 91, 3), (113, .invokevirtual 102, 3), (116, .iinc 4 1, 3), (119, .goto (-44), 3), (122, .iinc 3 1, 3), (125, .goto (-68), 3)] := allD_of (by decide +kernel)
def f5_build_b75_body (K57 : MM → Nat → Int32 → Option MM) (rc : MM → Nat → Int32 → Int32 → Option MM) (M : MM) (a0 : Nat) (a3 : Int32) (a4 : Int32) : Option MM :=
  aO M a0 5 <|
  if (mI M a0 14) ≤ a4 then
    K57 M a0 (a3 + (1 : Int32))
  else
    aO M a0 5 <|
    aO M a0 5 <|
    aO M (mR M a0 2) 3 <|
    cI (f3_get M (mR M a0 2) a3) fun r102 M102 =>
    aO M102 a0 5 <|
    cI (f5_setBehind M102 a0 r102 a4) fun r107 M107 =>
    aO M107 a0 5 <|
    cI (f5_setNumber M107 a0 r107) fun r110 M110 =>
    aO M110 (mR M a0 4) 3 <|
    cV (f3_set M110 (mR M a0 4) ((a3 * (6 : Int32)) + a4) r110) fun M113 =>
    rc M113 a0 a3 (a4 + (1 : Int32))
def f5_build_b75 (K57 : MM → Nat → Int32 → Option MM) : MM → Nat → Int32 → Int32 → Option MM := LP4 (f5_build_b75_body K57) FU
set_option maxRecDepth 4000 in
theorem T5_build_b75 {K57 : MM → Nat → Int32 → Option MM} (hK57 : ∀ (M : MM) (a0 : Nat) (a3 : Int32), X Lv i5_build 57 [(0, vr a0), (3, vi a3)] [] M (K57 M a0 a3)) : ∀ (M : MM) (a0 : Nat) (a3 : Int32) (a4 : Int32), X Lv i5_build 75 [(0, vr a0), (3, vi a3), (4, vi a4)] [] M (f5_build_b75 K57 M a0 a3 a4) := by
  obtain ⟨d75, d77, d78, d81, d84, d85, d88, d89, d91, d92, d94, d95, d96, d97, d98, d101, d102, d105, d107, d110, d113, d116, d119, d122, d125, -⟩ := dd5_build_b75
  refine LP4_i (P := fun M a0 a3 a4 o => X Lv i5_build 75 [(0, vr a0), (3, vi a3), (4, vi a4)] [] M o) (fun _ _ _ _ => X_none) (fun rc ih M a0 a3 a4 => ?_) FU
  unfold f5_build_b75_body
  refine X_iload 2 d75 rfl ?_
  refine X_aloadn 0 d77 rfl ?_
  refine X_getI d78 fg_x5_66 ?_
  refine X_icmp_ge (t := 122) d81 rfl (fun h81 => ?_) (fun h81 => ?_)
  · refine X_inc (lv' := [(3, vi (a3 + (1 : Int32))), (0, vr a0), (4, vi a4)]) 1 d122 k_i_1 rfl (by decide) rfl ?_
    refine X_goto (t := 57) d125 rfl ?_
    refine X_sub [1, 0] rfl ?_
    exact hK57 M a0 (a3 + (1 : Int32))
  · refine X_aloadn 0 d84 rfl ?_
    refine X_getR d85 fg_x5_31 ?_
    refine X_iloadn 1 d88 rfl ?_
    refine X_bipush k_b_6 d89 ?_
    refine X_imul d91 ?_
    refine X_iload 2 d92 rfl ?_
    refine X_iadd d94 ?_
    refine X_aloadn 0 d95 rfl ?_
    refine X_aloadn 0 d96 rfl ?_
    refine X_aloadn 0 d97 rfl ?_
    refine X_getR d98 fg_x5_25 ?_
    refine X_iloadn 1 d101 rfl ?_
    refine X_cVi (as := [vi a3]) d102 cv_x5_95 ⟨by decide, by decide⟩ rfl (Nat.le_of_ble_eq_true rfl) (T3_get M (mR M a0 2) a3) (fun r102 M102 _ => ?_)
    refine X_iload 2 d105 rfl ?_
    refine X_cVi (as := [vi r102, vi a4]) d107 cv_x5_98 ⟨by decide, by decide⟩ rfl (Nat.le_of_ble_eq_true rfl) (T5_setBehind M102 a0 r102 a4) (fun r107 M107 _ => ?_)
    refine X_cVi (as := [vi r107]) d110 cv_x5_91 ⟨by decide, by decide⟩ rfl (Nat.le_of_ble_eq_true rfl) (T5_setNumber M107 a0 r107) (fun r110 M110 _ => ?_)
    refine X_cVv (as := [vi ((a3 * (6 : Int32)) + a4), vi r110]) d113 cv_x5_102 ⟨by decide, by decide⟩ rfl (Nat.le_of_ble_eq_true rfl) (T3_set M110 (mR M a0 4) ((a3 * (6 : Int32)) + a4) r110) (fun M113 _ => ?_)
    refine X_inc (lv' := [(4, vi (a4 + (1 : Int32))), (0, vr a0), (3, vi a3)]) 2 d116 k_i_1 rfl (by decide) rfl ?_
    refine X_goto (t := 75) d119 rfl ?_
    refine X_sub [1, 2, 0] rfl ?_
    exact ih M113 a0 a3 (a4 + (1 : Int32))

theorem dd5_build_b57 : AllD (ib i5_build) [(57, .iload_n 3, 1), (58, .aload_n 0, 1), (59, .getfield 69, 3), (62, .if_icmp .ge 66, 3), (65, .iload_n 3, 1), (66, .sipush 2340, 3), (69, .if_icmp .ge 59, 3), (72, .iconst 0, 1), (73, .istore 4, 2), (128, .return_, 1)] := allD_of (by decide +kernel)
def f5_build_b57_body (rc : MM → Nat → Int32 → Option MM) (M : MM) (a0 : Nat) (a3 : Int32) : Option MM :=
  aO M a0 5 <|
  if (mI M a0 15) ≤ a3 then
    some M
  else
    if (2340 : Int32) ≤ a3 then
      some M
    else
      (f5_build_b75 rc) M a0 a3 (0 : Int32)
def f5_build_b57 : MM → Nat → Int32 → Option MM := LP3 (f5_build_b57_body) FU
set_option maxRecDepth 4000 in
theorem T5_build_b57 : ∀ (M : MM) (a0 : Nat) (a3 : Int32), X Lv i5_build 57 [(0, vr a0), (3, vi a3)] [] M (f5_build_b57 M a0 a3) := by
  obtain ⟨d57, d58, d59, d62, d65, d66, d69, d72, d73, d128, -⟩ := dd5_build_b57
  refine LP3_i (P := fun M a0 a3 o => X Lv i5_build 57 [(0, vr a0), (3, vi a3)] [] M o) (fun _ _ _ => X_none) (fun rc ih M a0 a3 => ?_) FU
  unfold f5_build_b57_body
  refine X_iloadn 1 d57 rfl ?_
  refine X_aloadn 0 d58 rfl ?_
  refine X_getI d59 fg_x5_69 ?_
  refine X_icmp_ge (t := 128) d62 rfl (fun h62 => ?_) (fun h62 => ?_)
  · exact X_vreturn d128 rfl rfl
  · refine X_iloadn 1 d65 rfl ?_
    refine X_sipush k_s_2340 d66 ?_
    refine X_icmp_ge (t := 128) d69 rfl (fun h69 => ?_) (fun h69 => ?_)
    · exact X_vreturn d128 rfl rfl
    · refine X_iconst k_i_0 d72 ?_
      refine X_istore (lv' := [(4, vi (0 : Int32)), (0, vr a0), (3, vi a3)]) d73 (by decide) rfl ?_
      refine X_sub [1, 2, 0] rfl ?_
      exact (T5_build_b75 ih) M a0 a3 (0 : Int32)

theorem dd5_build_b33 : AllD (ib i5_build) [(33, .iload_n 3, 1), (34, .aload_n 1, 1), (35, .getfield 88, 3), (38, .if_icmp .ge 17, 3), (41, .aload_n 0, 1), (42, .iconst 1, 1), (43, .iload_n 3, 1), (44, .ishl, 1), (45, .invokevirtual 91, 3), (48, .pop, 1), (49, .iinc 3 1, 3), (52, .goto (-19), 3), (55, .iconst 0, 1), (56, .istore_n 3, 1)] := allD_of (by decide +kernel)
def f5_build_b33_body (rc : MM → Nat → Nat → Int32 → Option MM) (M : MM) (a0 : Nat) (a1 : Nat) (a3 : Int32) : Option MM :=
  aO M a1 7 <|
  if (mI M a1 4) ≤ a3 then
    f5_build_b57 M a0 (0 : Int32)
  else
    aO M a0 5 <|
    cI (f5_setNumber M a0 ((1 : Int32) <<< (a3 &&& 31))) fun r45 M45 =>
    rc M45 a0 a1 (a3 + (1 : Int32))
def f5_build_b33 : MM → Nat → Nat → Int32 → Option MM := LP4 (f5_build_b33_body) FU
set_option maxRecDepth 4000 in
theorem T5_build_b33 : ∀ (M : MM) (a0 : Nat) (a1 : Nat) (a3 : Int32), X Lv i5_build 33 [(0, vr a0), (1, vr a1), (3, vi a3)] [] M (f5_build_b33 M a0 a1 a3) := by
  obtain ⟨d33, d34, d35, d38, d41, d42, d43, d44, d45, d48, d49, d52, d55, d56, -⟩ := dd5_build_b33
  refine LP4_i (P := fun M a0 a1 a3 o => X Lv i5_build 33 [(0, vr a0), (1, vr a1), (3, vi a3)] [] M o) (fun _ _ _ _ => X_none) (fun rc ih M a0 a1 a3 => ?_) FU
  unfold f5_build_b33_body
  refine X_iloadn 2 d33 rfl ?_
  refine X_aloadn 1 d34 rfl ?_
  refine X_getI d35 fg_x5_88 ?_
  refine X_icmp_ge (t := 55) d38 rfl (fun h38 => ?_) (fun h38 => ?_)
  · refine X_iconst k_i_0 d55 ?_
    refine X_istoren (lv' := [(3, vi (0 : Int32)), (0, vr a0), (1, vr a1)]) d56 (by decide) rfl ?_
    refine X_sub [1, 0] rfl ?_
    exact T5_build_b57 M a0 (0 : Int32)
  · refine X_aloadn 0 d41 rfl ?_
    refine X_iconst k_i_1 d42 ?_
    refine X_iloadn 2 d43 rfl ?_
    refine X_ishl d44 ?_
    refine X_cVi (as := [vi ((1 : Int32) <<< (a3 &&& 31))]) d45 cv_x5_91 ⟨by decide, by decide⟩ rfl (Nat.le_of_ble_eq_true rfl) (T5_setNumber M a0 ((1 : Int32) <<< (a3 &&& 31))) (fun r45 M45 _ => ?_)
    refine X_popi d48 ?_
    refine X_inc (lv' := [(3, vi (a3 + (1 : Int32))), (0, vr a0), (1, vr a1)]) 2 d49 k_i_1 rfl (by decide) rfl ?_
    refine X_goto (t := 33) d52 rfl ?_
    refine X_sub [1, 2, 0] rfl ?_
    exact ih M45 a0 a1 (a3 + (1 : Int32))

theorem dd5_build : AllD (ib i5_build) [(0, .aload_n 0, 1), (1, .aload_n 1, 1), (2, .getfield 78, 3), (5, .putfield 66, 3), (8, .aload_n 0, 1), (9, .iconst 0, 1), (10, .putfield 69, 3), (13, .aload_n 0, 1), (14, .iconst (-1), 1), (15, .putfield 72, 3), (18, .aload_n 0, 1), (19, .aload_n 2, 1), (20, .invokevirtual 81, 3), (23, .aload_n 0, 1), (24, .getfield 22, 3), (27, .iconst (-1), 1), (28, .invokevirtual 85, 3), (31, .iconst 0, 1), (32, .istore_n 3, 1)] := allD_of (by decide +kernel)
def f5_build (M : MM) (a0 : Nat) (a1 : Nat) (a2 : Nat) : Option MM :=
  aO M a1 7 <|
  aO M a0 5 <|
  bM (sI M a0 14 (mI M a1 5)) fun M5 =>
  aO M5 a0 5 <|
  bM (sI M5 a0 15 (0 : Int32)) fun M10 =>
  aO M10 a0 5 <|
  bM (sI M10 a0 16 (-1 : Int32)) fun M15 =>
  aO M15 a0 5 <|
  cV (f5_readMoves M15 a0 a2) fun M20 =>
  aO M20 a0 5 <|
  aO M20 (mR M20 a0 1) 3 <|
  cV (f3_fill M20 (mR M20 a0 1) (-1 : Int32)) fun M28 =>
  f5_build_b33 M28 a0 a1 (0 : Int32)
set_option maxRecDepth 4000 in
theorem T5_build (M : MM) (a0 : Nat) (a1 : Nat) (a2 : Nat) : ∀ q, f5_build M a0 a1 a2 = some q → Run i5_build [vr a0, vr a1, vr a2] M (Lv q) := by
  obtain ⟨d0, d1, d2, d5, d8, d9, d10, d13, d14, d15, d18, d19, d20, d23, d24, d27, d28, d31, d32, -⟩ := dd5_build
  refine Run_of_X (by decide) (Nat.le_of_ble_eq_true rfl) ?_
  show X Lv i5_build 0 [(0, vr a0), (1, vr a1), (2, vr a2)] [] M _
  unfold f5_build
  refine X_aloadn 0 d0 rfl ?_
  refine X_aloadn 1 d1 rfl ?_
  refine X_getI d2 fg_x5_78 ?_
  refine X_putI d5 fp_x5_66 ?_
  refine X_bM fun M5 _ => ?_
  refine X_aloadn 0 d8 rfl ?_
  refine X_iconst k_i_0 d9 ?_
  refine X_putI d10 fp_x5_69 ?_
  refine X_bM fun M10 _ => ?_
  refine X_aloadn 0 d13 rfl ?_
  refine X_iconst k_i_m1 d14 ?_
  refine X_putI d15 fp_x5_72 ?_
  refine X_bM fun M15 _ => ?_
  refine X_aloadn 0 d18 rfl ?_
  refine X_aloadn 2 d19 rfl ?_
  refine X_cVv (as := [vr a2]) d20 cv_x5_81 ⟨by decide, by decide⟩ rfl (Nat.le_of_ble_eq_true rfl) (T5_readMoves M15 a0 a2) (fun M20 _ => ?_)
  refine X_aloadn 0 d23 rfl ?_
  refine X_getR d24 fg_x5_22 ?_
  refine X_iconst k_i_m1 d27 ?_
  refine X_cVv (as := [vi (-1 : Int32)]) d28 cv_x5_85 ⟨by decide, by decide⟩ rfl (Nat.le_of_ble_eq_true rfl) (T3_fill M20 (mR M20 a0 1) (-1 : Int32)) (fun M28 _ => ?_)
  refine X_iconst k_i_0 d31 ?_
  refine X_istoren (lv' := [(3, vi (0 : Int32)), (0, vr a0), (1, vr a1), (2, vr a2)]) d32 (by decide) rfl ?_
  refine X_sub [1, 2, 0] rfl ?_
  exact T5_build_b33 M28 a0 a1 (0 : Int32)

theorem dd5_nodeBehind : AllD (ib i5_nodeBehind) [(0, .aload_n 0, 1), (1, .getfield 40, 3), (4, .aload_n 0, 1), (5, .aload_n 0, 1), (6, .getfield 43, 3), (9, .iload_n 1, 1), (10, .invokevirtual 95, 3), (13, .iload_n 2, 1), (14, .invokevirtual 144, 3), (17, .invokevirtual 95, 3), (20, .ireturn, 1)] := allD_of (by decide +kernel)
def f5_nodeBehind (M : MM) (a0 : Nat) (a1 : Int32) (a2 : Int32) : Option (Int32 × MM) :=
  aO M a0 5 <|
  aO M a0 5 <|
  aO M (mR M a0 8) 3 <|
  cI (f3_get M (mR M a0 8) a1) fun r10 M10 =>
  aO M10 a0 5 <|
  cI (f5_kindBehind M10 a0 r10 a2) fun r14 M14 =>
  aO M14 (mR M a0 7) 3 <|
  cI (f3_get M14 (mR M a0 7) r14) fun r17 M17 =>
  some (r17, M17)
set_option maxRecDepth 4000 in
theorem T5_nodeBehind (M : MM) (a0 : Nat) (a1 : Int32) (a2 : Int32) : ∀ q, f5_nodeBehind M a0 a1 a2 = some q → Run i5_nodeBehind [vr a0, vi a1, vi a2] M (Li q) := by
  obtain ⟨d0, d1, d4, d5, d6, d9, d10, d13, d14, d17, d20, -⟩ := dd5_nodeBehind
  refine Run_of_X (by decide) (Nat.le_of_ble_eq_true rfl) ?_
  show X Li i5_nodeBehind 0 [(0, vr a0), (1, vi a1), (2, vi a2)] [] M _
  unfold f5_nodeBehind
  refine X_aloadn 0 d0 rfl ?_
  refine X_getR d1 fg_x5_40 ?_
  refine X_aloadn 0 d4 rfl ?_
  refine X_aloadn 0 d5 rfl ?_
  refine X_getR d6 fg_x5_43 ?_
  refine X_iloadn 1 d9 rfl ?_
  refine X_cVi (as := [vi a1]) d10 cv_x5_95 ⟨by decide, by decide⟩ rfl (Nat.le_of_ble_eq_true rfl) (T3_get M (mR M a0 8) a1) (fun r10 M10 _ => ?_)
  refine X_iloadn 2 d13 rfl ?_
  refine X_cVi (as := [vi r10, vi a2]) d14 cv_x5_144 ⟨by decide, by decide⟩ rfl (Nat.le_of_ble_eq_true rfl) (T5_kindBehind M10 a0 r10 a2) (fun r14 M14 _ => ?_)
  refine X_cVi (as := [vi r14]) d17 cv_x5_95 ⟨by decide, by decide⟩ rfl (Nat.le_of_ble_eq_true rfl) (T3_get M14 (mR M a0 7) r14) (fun r17 M17 _ => ?_)
  exact X_ireturn d20 rfl rfl

theorem dd5_lengthenWords_b37 : AllD (ib i5_lengthenWords) [(37, .iload_n 2, 1), (38, .aload_n 0, 1), (39, .getfield 66, 3), (42, .if_icmp .ge 41, 3), (45, .aload_n 0, 1), (46, .iload_n 1, 1), (47, .iload_n 2, 1), (48, .invokevirtual 162, 3), (51, .istore_n 3, 1), (52, .aload_n 0, 1), (53, .getfield 56, 3), (56, .iload_n 3, 1), (57, .aload_n 0, 1), (58, .getfield 56, 3), (61, .iload_n 3, 1), (62, .invokevirtual 159, 3), (65, .aload_n 0, 1), (66, .getfield 52, 3), (69, .iload_n 1, 1), (70, .invokevirtual 159, 3), (73, .ladd, 1), (74, .invokevirtual 150, 3), (77, .iinc 2 1, 3), (80, .goto (-43), 3), (83, .iinc 1 1, 3), (86, .goto (-59), 3)] := allD_of (by decide +kernel)
def f5_lengthenWords_b37_body (K27 : MM → Nat → Int32 → Option MM) (rc : MM → Nat → Int32 → Int32 → Option MM) (M : MM) (a0 : Nat) (a1 : Int32) (a2 : Int32) : Option MM :=
  aO M a0 5 <|
  if (mI M a0 14) ≤ a2 then
    K27 M a0 (a1 + (1 : Int32))
  else
    aO M a0 5 <|
    cI (f5_nodeBehind M a0 a1 a2) fun r48 M48 =>
    aO M48 a0 5 <|
    aO M48 a0 5 <|
    aO M48 (mR M48 a0 11) 4 <|
    cJ (f4_get M48 (mR M48 a0 11) r48) fun r62 M62 =>
    aO M62 a0 5 <|
    aO M62 (mR M62 a0 10) 4 <|
    cJ (f4_get M62 (mR M62 a0 10) a1) fun r70 M70 =>
    aO M70 (mR M48 a0 11) 4 <|
    cV (f4_set M70 (mR M48 a0 11) r48 (r62 + r70)) fun M74 =>
    rc M74 a0 a1 (a2 + (1 : Int32))
def f5_lengthenWords_b37 (K27 : MM → Nat → Int32 → Option MM) : MM → Nat → Int32 → Int32 → Option MM := LP4 (f5_lengthenWords_b37_body K27) FU
set_option maxRecDepth 4000 in
theorem T5_lengthenWords_b37 {K27 : MM → Nat → Int32 → Option MM} (hK27 : ∀ (M : MM) (a0 : Nat) (a1 : Int32), X Lv i5_lengthenWords 27 [(0, vr a0), (1, vi a1)] [] M (K27 M a0 a1)) : ∀ (M : MM) (a0 : Nat) (a1 : Int32) (a2 : Int32), X Lv i5_lengthenWords 37 [(0, vr a0), (1, vi a1), (2, vi a2)] [] M (f5_lengthenWords_b37 K27 M a0 a1 a2) := by
  obtain ⟨d37, d38, d39, d42, d45, d46, d47, d48, d51, d52, d53, d56, d57, d58, d61, d62, d65, d66, d69, d70, d73, d74, d77, d80, d83, d86, -⟩ := dd5_lengthenWords_b37
  refine LP4_i (P := fun M a0 a1 a2 o => X Lv i5_lengthenWords 37 [(0, vr a0), (1, vi a1), (2, vi a2)] [] M o) (fun _ _ _ _ => X_none) (fun rc ih M a0 a1 a2 => ?_) FU
  unfold f5_lengthenWords_b37_body
  refine X_iloadn 2 d37 rfl ?_
  refine X_aloadn 0 d38 rfl ?_
  refine X_getI d39 fg_x5_66 ?_
  refine X_icmp_ge (t := 83) d42 rfl (fun h42 => ?_) (fun h42 => ?_)
  · refine X_inc (lv' := [(1, vi (a1 + (1 : Int32))), (0, vr a0), (2, vi a2)]) 1 d83 k_i_1 rfl (by decide) rfl ?_
    refine X_goto (t := 27) d86 rfl ?_
    refine X_sub [1, 0] rfl ?_
    exact hK27 M a0 (a1 + (1 : Int32))
  · refine X_aloadn 0 d45 rfl ?_
    refine X_iloadn 1 d46 rfl ?_
    refine X_iloadn 2 d47 rfl ?_
    refine X_cVi (as := [vi a1, vi a2]) d48 cv_x5_162 ⟨by decide, by decide⟩ rfl (Nat.le_of_ble_eq_true rfl) (T5_nodeBehind M a0 a1 a2) (fun r48 M48 _ => ?_)
    refine X_istoren (lv' := [(3, vi r48), (0, vr a0), (1, vi a1), (2, vi a2)]) d51 (by decide) rfl ?_
    refine X_aloadn 1 d52 rfl ?_
    refine X_getR d53 fg_x5_56 ?_
    refine X_iloadn 0 d56 rfl ?_
    refine X_aloadn 1 d57 rfl ?_
    refine X_getR d58 fg_x5_56 ?_
    refine X_iloadn 0 d61 rfl ?_
    refine X_cVl (as := [vi r48]) d62 cv_x5_159 ⟨by decide, by decide⟩ rfl (Nat.le_of_ble_eq_true rfl) (T4_get M48 (mR M48 a0 11) r48) (fun r62 M62 _ => ?_)
    refine X_aloadn 1 d65 rfl ?_
    refine X_getR d66 fg_x5_52 ?_
    refine X_iloadn 2 d69 rfl ?_
    refine X_cVl (as := [vi a1]) d70 cv_x5_159 ⟨by decide, by decide⟩ rfl (Nat.le_of_ble_eq_true rfl) (T4_get M62 (mR M62 a0 10) a1) (fun r70 M70 _ => ?_)
    refine X_ladd d73 ?_
    refine X_cVv (as := [vi r48, vl (r62 + r70)]) d74 cv_x5_150 ⟨by decide, by decide⟩ rfl (Nat.le_of_ble_eq_true rfl) (T4_set M70 (mR M48 a0 11) r48 (r62 + r70)) (fun M74 _ => ?_)
    refine X_inc (lv' := [(2, vi (a2 + (1 : Int32))), (3, vi r48), (0, vr a0), (1, vi a1)]) 3 d77 k_i_1 rfl (by decide) rfl ?_
    refine X_goto (t := 37) d80 rfl ?_
    refine X_sub [2, 3, 0] rfl ?_
    exact ih M74 a0 a1 (a2 + (1 : Int32))

theorem dd5_lengthenWords_b91 : AllD (ib i5_lengthenWords) [(91, .iload_n 1, 1), (92, .aload_n 0, 1), (93, .getfield 75, 3), (96, .if_icmp .ge 25, 3), (99, .aload_n 0, 1), (100, .getfield 52, 3), (103, .iload_n 1, 1), (104, .aload_n 0, 1), (105, .getfield 56, 3), (108, .iload_n 1, 1), (109, .invokevirtual 159, 3), (112, .invokevirtual 150, 3), (115, .iinc 1 1, 3), (118, .goto (-27), 3), (121, .return_, 1)] := allD_of (by decide +kernel)
def f5_lengthenWords_b91_body (rc : MM → Nat → Int32 → Option MM) (M : MM) (a0 : Nat) (a1 : Int32) : Option MM :=
  aO M a0 5 <|
  if (mI M a0 17) ≤ a1 then
    some M
  else
    aO M a0 5 <|
    aO M a0 5 <|
    aO M (mR M a0 11) 4 <|
    cJ (f4_get M (mR M a0 11) a1) fun r109 M109 =>
    aO M109 (mR M a0 10) 4 <|
    cV (f4_set M109 (mR M a0 10) a1 r109) fun M112 =>
    rc M112 a0 (a1 + (1 : Int32))
def f5_lengthenWords_b91 : MM → Nat → Int32 → Option MM := LP3 (f5_lengthenWords_b91_body) FU
set_option maxRecDepth 4000 in
theorem T5_lengthenWords_b91 : ∀ (M : MM) (a0 : Nat) (a1 : Int32), X Lv i5_lengthenWords 91 [(0, vr a0), (1, vi a1)] [] M (f5_lengthenWords_b91 M a0 a1) := by
  obtain ⟨d91, d92, d93, d96, d99, d100, d103, d104, d105, d108, d109, d112, d115, d118, d121, -⟩ := dd5_lengthenWords_b91
  refine LP3_i (P := fun M a0 a1 o => X Lv i5_lengthenWords 91 [(0, vr a0), (1, vi a1)] [] M o) (fun _ _ _ => X_none) (fun rc ih M a0 a1 => ?_) FU
  unfold f5_lengthenWords_b91_body
  refine X_iloadn 1 d91 rfl ?_
  refine X_aloadn 0 d92 rfl ?_
  refine X_getI d93 fg_x5_75 ?_
  refine X_icmp_ge (t := 121) d96 rfl (fun h96 => ?_) (fun h96 => ?_)
  · exact X_vreturn d121 rfl rfl
  · refine X_aloadn 0 d99 rfl ?_
    refine X_getR d100 fg_x5_52 ?_
    refine X_iloadn 1 d103 rfl ?_
    refine X_aloadn 0 d104 rfl ?_
    refine X_getR d105 fg_x5_56 ?_
    refine X_iloadn 1 d108 rfl ?_
    refine X_cVl (as := [vi a1]) d109 cv_x5_159 ⟨by decide, by decide⟩ rfl (Nat.le_of_ble_eq_true rfl) (T4_get M (mR M a0 11) a1) (fun r109 M109 _ => ?_)
    refine X_cVv (as := [vi a1, vl r109]) d112 cv_x5_150 ⟨by decide, by decide⟩ rfl (Nat.le_of_ble_eq_true rfl) (T4_set M109 (mR M a0 10) a1 r109) (fun M112 _ => ?_)
    refine X_inc (lv' := [(1, vi (a1 + (1 : Int32))), (0, vr a0)]) 1 d115 k_i_1 rfl (by decide) rfl ?_
    refine X_goto (t := 91) d118 rfl ?_
    refine X_sub [1, 0] rfl ?_
    exact ih M112 a0 (a1 + (1 : Int32))

theorem dd5_lengthenWords_b27 : AllD (ib i5_lengthenWords) [(27, .iload_n 1, 1), (28, .aload_n 0, 1), (29, .getfield 75, 3), (32, .if_icmp .ge 57, 3), (35, .iconst 0, 1), (36, .istore_n 2, 1), (89, .iconst 0, 1), (90, .istore_n 1, 1)] := allD_of (by decide +kernel)
def f5_lengthenWords_b27_body (rc : MM → Nat → Int32 → Option MM) (M : MM) (a0 : Nat) (a1 : Int32) : Option MM :=
  aO M a0 5 <|
  if (mI M a0 17) ≤ a1 then
    f5_lengthenWords_b91 M a0 (0 : Int32)
  else
    (f5_lengthenWords_b37 rc) M a0 a1 (0 : Int32)
def f5_lengthenWords_b27 : MM → Nat → Int32 → Option MM := LP3 (f5_lengthenWords_b27_body) FU
set_option maxRecDepth 4000 in
theorem T5_lengthenWords_b27 : ∀ (M : MM) (a0 : Nat) (a1 : Int32), X Lv i5_lengthenWords 27 [(0, vr a0), (1, vi a1)] [] M (f5_lengthenWords_b27 M a0 a1) := by
  obtain ⟨d27, d28, d29, d32, d35, d36, d89, d90, -⟩ := dd5_lengthenWords_b27
  refine LP3_i (P := fun M a0 a1 o => X Lv i5_lengthenWords 27 [(0, vr a0), (1, vi a1)] [] M o) (fun _ _ _ => X_none) (fun rc ih M a0 a1 => ?_) FU
  unfold f5_lengthenWords_b27_body
  refine X_iloadn 1 d27 rfl ?_
  refine X_aloadn 0 d28 rfl ?_
  refine X_getI d29 fg_x5_75 ?_
  refine X_icmp_ge (t := 89) d32 rfl (fun h32 => ?_) (fun h32 => ?_)
  · refine X_iconst k_i_0 d89 ?_
    refine X_istoren (lv' := [(1, vi (0 : Int32)), (0, vr a0)]) d90 (by decide) rfl ?_
    refine X_sub [1, 0] rfl ?_
    exact T5_lengthenWords_b91 M a0 (0 : Int32)
  · refine X_iconst k_i_0 d35 ?_
    refine X_istoren (lv' := [(2, vi (0 : Int32)), (0, vr a0), (1, vi a1)]) d36 (by decide) rfl ?_
    refine X_sub [1, 2, 0] rfl ?_
    exact (T5_lengthenWords_b37 ih) M a0 a1 (0 : Int32)

theorem dd5_lengthenWords_b2 : AllD (ib i5_lengthenWords) [(2, .iload_n 1, 1), (3, .aload_n 0, 1), (4, .getfield 75, 3), (7, .if_icmp .ge 18, 3), (10, .aload_n 0, 1), (11, .getfield 56, 3), (14, .iload_n 1, 1), (15, .lconst 0, 1), (16, .invokevirtual 150, 3), (19, .iinc 1 1, 3), (22, .goto (-20), 3), (25, .iconst 0, 1), (26, .istore_n 1, 1)] := allD_of (by decide +kernel)
def f5_lengthenWords_b2_body (rc : MM → Nat → Int32 → Option MM) (M : MM) (a0 : Nat) (a1 : Int32) : Option MM :=
  aO M a0 5 <|
  if (mI M a0 17) ≤ a1 then
    f5_lengthenWords_b27 M a0 (0 : Int32)
  else
    aO M a0 5 <|
    aO M (mR M a0 11) 4 <|
    cV (f4_set M (mR M a0 11) a1 (0 : Int64)) fun M16 =>
    rc M16 a0 (a1 + (1 : Int32))
def f5_lengthenWords_b2 : MM → Nat → Int32 → Option MM := LP3 (f5_lengthenWords_b2_body) FU
set_option maxRecDepth 4000 in
theorem T5_lengthenWords_b2 : ∀ (M : MM) (a0 : Nat) (a1 : Int32), X Lv i5_lengthenWords 2 [(0, vr a0), (1, vi a1)] [] M (f5_lengthenWords_b2 M a0 a1) := by
  obtain ⟨d2, d3, d4, d7, d10, d11, d14, d15, d16, d19, d22, d25, d26, -⟩ := dd5_lengthenWords_b2
  refine LP3_i (P := fun M a0 a1 o => X Lv i5_lengthenWords 2 [(0, vr a0), (1, vi a1)] [] M o) (fun _ _ _ => X_none) (fun rc ih M a0 a1 => ?_) FU
  unfold f5_lengthenWords_b2_body
  refine X_iloadn 1 d2 rfl ?_
  refine X_aloadn 0 d3 rfl ?_
  refine X_getI d4 fg_x5_75 ?_
  refine X_icmp_ge (t := 25) d7 rfl (fun h7 => ?_) (fun h7 => ?_)
  · refine X_iconst k_i_0 d25 ?_
    refine X_istoren (lv' := [(1, vi (0 : Int32)), (0, vr a0)]) d26 (by decide) rfl ?_
    refine X_sub [1, 0] rfl ?_
    exact T5_lengthenWords_b27 M a0 (0 : Int32)
  · refine X_aloadn 0 d10 rfl ?_
    refine X_getR d11 fg_x5_56 ?_
    refine X_iloadn 1 d14 rfl ?_
    refine X_lconst k_l_0 d15 ?_
    refine X_cVv (as := [vi a1, vl (0 : Int64)]) d16 cv_x5_150 ⟨by decide, by decide⟩ rfl (Nat.le_of_ble_eq_true rfl) (T4_set M (mR M a0 11) a1 (0 : Int64)) (fun M16 _ => ?_)
    refine X_inc (lv' := [(1, vi (a1 + (1 : Int32))), (0, vr a0)]) 1 d19 k_i_1 rfl (by decide) rfl ?_
    refine X_goto (t := 2) d22 rfl ?_
    refine X_sub [1, 0] rfl ?_
    exact ih M16 a0 (a1 + (1 : Int32))

theorem dd5_lengthenWords : AllD (ib i5_lengthenWords) [(0, .iconst 0, 1), (1, .istore_n 1, 1)] := allD_of (by decide +kernel)
def f5_lengthenWords (M : MM) (a0 : Nat) : Option MM :=
  f5_lengthenWords_b2 M a0 (0 : Int32)
set_option maxRecDepth 4000 in
theorem T5_lengthenWords (M : MM) (a0 : Nat) : ∀ q, f5_lengthenWords M a0 = some q → Run i5_lengthenWords [vr a0] M (Lv q) := by
  obtain ⟨d0, d1, -⟩ := dd5_lengthenWords
  refine Run_of_X (by decide) (Nat.le_of_ble_eq_true rfl) ?_
  show X Lv i5_lengthenWords 0 [(0, vr a0)] [] M _
  unfold f5_lengthenWords
  refine X_iconst k_i_0 d0 ?_
  refine X_istoren (lv' := [(1, vi (0 : Int32)), (0, vr a0)]) d1 (by decide) rfl ?_
  refine X_sub [1, 0] rfl ?_
  exact T5_lengthenWords_b2 M a0 (0 : Int32)

theorem dd5_isGoodSet : AllD (ib i5_isGoodSet) [(0, .aload_n 0, 1), (1, .getfield 25, 3), (4, .iload_n 1, 1), (5, .invokevirtual 95, 3), (8, .aload_n 0, 1), (9, .getfield 63, 3), (12, .iand, 1), (13, .ifCond .eq 7, 3), (16, .iconst 1, 1), (17, .goto 4, 3), (20, .iconst 0, 1), (21, .ireturn, 1)] := allD_of (by decide +kernel)
def f5_isGoodSet (M : MM) (a0 : Nat) (a1 : Int32) : Option (Int32 × MM) :=
  aO M a0 5 <|
  aO M (mR M a0 2) 3 <|
  cI (f3_get M (mR M a0 2) a1) fun r5 M5 =>
  aO M5 a0 5 <|
  if (r5 &&& (mI M5 a0 13)) = 0 then
    some ((0 : Int32), M5)
  else
    some ((1 : Int32), M5)
set_option maxRecDepth 4000 in
theorem T5_isGoodSet (M : MM) (a0 : Nat) (a1 : Int32) : ∀ q, f5_isGoodSet M a0 a1 = some q → Run i5_isGoodSet [vr a0, vi a1] M (Li q) := by
  obtain ⟨d0, d1, d4, d5, d8, d9, d12, d13, d16, d17, d20, d21, -⟩ := dd5_isGoodSet
  refine Run_of_X (by decide) (Nat.le_of_ble_eq_true rfl) ?_
  show X Li i5_isGoodSet 0 [(0, vr a0), (1, vi a1)] [] M _
  unfold f5_isGoodSet
  refine X_aloadn 0 d0 rfl ?_
  refine X_getR d1 fg_x5_25 ?_
  refine X_iloadn 1 d4 rfl ?_
  refine X_cVi (as := [vi a1]) d5 cv_x5_95 ⟨by decide, by decide⟩ rfl (Nat.le_of_ble_eq_true rfl) (T3_get M (mR M a0 2) a1) (fun r5 M5 _ => ?_)
  refine X_aloadn 0 d8 rfl ?_
  refine X_getI d9 fg_x5_63 ?_
  refine X_iand d12 ?_
  refine X_if_eq (t := 20) d13 rfl (fun h13 => ?_) (fun h13 => ?_)
  · refine X_iconst k_i_0 d20 ?_
    exact X_zreturnc d21 rfl (by decide) rfl
  · refine X_iconst k_i_1 d16 ?_
    refine X_goto (t := 21) d17 rfl ?_
    exact X_zreturnc d21 rfl (by decide) rfl

theorem dd5_isGoodNode : AllD (ib i5_isGoodNode) [(0, .aload_n 0, 1), (1, .aload_n 0, 1), (2, .getfield 43, 3), (5, .iload_n 1, 1), (6, .invokevirtual 95, 3), (9, .invokevirtual 126, 3), (12, .ireturn, 1)] := allD_of (by decide +kernel)
def f5_isGoodNode (M : MM) (a0 : Nat) (a1 : Int32) : Option (Int32 × MM) :=
  aO M a0 5 <|
  aO M (mR M a0 8) 3 <|
  cI (f3_get M (mR M a0 8) a1) fun r6 M6 =>
  aO M6 a0 5 <|
  cI (f5_isGoodSet M6 a0 r6) fun r9 M9 =>
  gd (r9 = 0 ∨ r9 = 1) <|
  some (r9, M9)
set_option maxRecDepth 4000 in
theorem T5_isGoodNode (M : MM) (a0 : Nat) (a1 : Int32) : ∀ q, f5_isGoodNode M a0 a1 = some q → Run i5_isGoodNode [vr a0, vi a1] M (Li q) := by
  obtain ⟨d0, d1, d2, d5, d6, d9, d12, -⟩ := dd5_isGoodNode
  refine Run_of_X (by decide) (Nat.le_of_ble_eq_true rfl) ?_
  show X Li i5_isGoodNode 0 [(0, vr a0), (1, vi a1)] [] M _
  unfold f5_isGoodNode
  refine X_aloadn 0 d0 rfl ?_
  refine X_aloadn 0 d1 rfl ?_
  refine X_getR d2 fg_x5_43 ?_
  refine X_iloadn 1 d5 rfl ?_
  refine X_cVi (as := [vi a1]) d6 cv_x5_95 ⟨by decide, by decide⟩ rfl (Nat.le_of_ble_eq_true rfl) (T3_get M (mR M a0 8) a1) (fun r6 M6 _ => ?_)
  refine X_cVi (as := [vi r6]) d9 cv_x5_126 ⟨by decide, by decide⟩ rfl (Nat.le_of_ble_eq_true rfl) (T5_isGoodSet M6 a0 r6) (fun r9 M9 _ => ?_)
  exact X_zreturn d12 rfl rfl

theorem dd5_countWords_b24 : AllD (ib i5_countWords) [(24, .invokevirtual 150, 3), (27, .iinc 2 1, 3), (30, .goto (-28), 3)] := allD_of (by decide +kernel)
def f5_countWords_b24 (K2 : MM → Nat → Int32 → Int32 → Option (Int64 × MM)) (M : MM) (a0 : Nat) (a1 : Int32) (a2 : Int32) (s0 : Int64) (s1 : Int32) (s2 : Nat) : Option (Int64 × MM) :=
  aO M s2 4 <|
  cV (f4_set M s2 s1 s0) fun M24 =>
  K2 M24 a0 a1 (a2 + (1 : Int32))
set_option maxRecDepth 4000 in
theorem T5_countWords_b24 {K2 : MM → Nat → Int32 → Int32 → Option (Int64 × MM)} (hK2 : ∀ (M : MM) (a0 : Nat) (a1 : Int32) (a2 : Int32), X Ll i5_countWords 2 [(0, vr a0), (1, vi a1), (2, vi a2)] [] M (K2 M a0 a1 a2)) : ∀ (M : MM) (a0 : Nat) (a1 : Int32) (a2 : Int32) (s0 : Int64) (s1 : Int32) (s2 : Nat), X Ll i5_countWords 24 [(0, vr a0), (1, vi a1), (2, vi a2)] [vl s0, vi s1, vr s2] M (f5_countWords_b24 K2 M a0 a1 a2 s0 s1 s2) := by
  obtain ⟨d24, d27, d30, -⟩ := dd5_countWords_b24
  intro M a0 a1 a2 s0 s1 s2
  unfold f5_countWords_b24
  refine X_cVv (as := [vi s1, vl s0]) d24 cv_x5_150 ⟨by decide, by decide⟩ rfl (Nat.le_of_ble_eq_true rfl) (T4_set M s2 s1 s0) (fun M24 _ => ?_)
  refine X_inc (lv' := [(2, vi (a2 + (1 : Int32))), (0, vr a0), (1, vi a1)]) 2 d27 k_i_1 rfl (by decide) rfl ?_
  refine X_goto (t := 2) d30 rfl ?_
  refine X_sub [1, 2, 0] rfl ?_
  exact hK2 M24 a0 a1 (a2 + (1 : Int32))

theorem dd5_countWords_b85 : AllD (ib i5_countWords) [(85, .iinc 4 1, 3), (88, .goto (-33), 3)] := allD_of (by decide +kernel)
def f5_countWords_b85 (K55 : MM → Nat → Int64 → Int32 → Option (Int64 × MM)) (M : MM) (a0 : Nat) (a2 : Int64) (a4 : Int32) : Option (Int64 × MM) :=
  K55 M a0 a2 (a4 + (1 : Int32))
set_option maxRecDepth 4000 in
theorem T5_countWords_b85 {K55 : MM → Nat → Int64 → Int32 → Option (Int64 × MM)} (hK55 : ∀ (M : MM) (a0 : Nat) (a2 : Int64) (a4 : Int32), X Ll i5_countWords 55 [(0, vr a0), (2, vl a2), (4, vi a4)] [] M (K55 M a0 a2 a4)) : ∀ (M : MM) (a0 : Nat) (a2 : Int64) (a4 : Int32), X Ll i5_countWords 85 [(0, vr a0), (2, vl a2), (4, vi a4)] [] M (f5_countWords_b85 K55 M a0 a2 a4) := by
  obtain ⟨d85, d88, -⟩ := dd5_countWords_b85
  intro M a0 a2 a4
  unfold f5_countWords_b85
  refine X_inc (lv' := [(4, vi (a4 + (1 : Int32))), (0, vr a0), (2, vl a2)]) 2 d85 k_i_1 rfl (by decide) rfl ?_
  refine X_goto (t := 55) d88 rfl ?_
  refine X_sub [1, 2, 0] rfl ?_
  exact hK55 M a0 a2 (a4 + (1 : Int32))

theorem dd5_countWords_b55 : AllD (ib i5_countWords) [(55, .iload 4, 2), (57, .aload_n 0, 1), (58, .getfield 75, 3), (61, .if_icmp .ge 30, 3), (64, .aload_n 0, 1), (65, .iload 4, 2), (67, .invokevirtual 156, 3), (70, .ifCond .eq 15, 3), (73, .lload_n 2, 1), (74, .aload_n 0, 1), (75, .getfield 52, 3), (78, .iload 4, 2), (80, .invokevirtual 159, 3), (83, .ladd, 1), (84, .lstore_n 2, 1), (91, .lload_n 2, 1), (92, .lreturn, 1)] := allD_of (by decide +kernel)
def f5_countWords_b55_body (rc : MM → Nat → Int64 → Int32 → Option (Int64 × MM)) (M : MM) (a0 : Nat) (a2 : Int64) (a4 : Int32) : Option (Int64 × MM) :=
  aO M a0 5 <|
  if (mI M a0 17) ≤ a4 then
    some (a2, M)
  else
    aO M a0 5 <|
    cI (f5_isGoodNode M a0 a4) fun r67 M67 =>
    if r67 = 0 then
      (f5_countWords_b85 rc) M67 a0 a2 a4
    else
      aO M67 a0 5 <|
      aO M67 (mR M67 a0 10) 4 <|
      cJ (f4_get M67 (mR M67 a0 10) a4) fun r80 M80 =>
      bW (a2 + r80) fun v84 =>
      (f5_countWords_b85 rc) M80 a0 v84 a4
def f5_countWords_b55 : MM → Nat → Int64 → Int32 → Option (Int64 × MM) := LP4 (f5_countWords_b55_body) FU
set_option maxRecDepth 4000 in
theorem T5_countWords_b55 : ∀ (M : MM) (a0 : Nat) (a2 : Int64) (a4 : Int32), X Ll i5_countWords 55 [(0, vr a0), (2, vl a2), (4, vi a4)] [] M (f5_countWords_b55 M a0 a2 a4) := by
  obtain ⟨d55, d57, d58, d61, d64, d65, d67, d70, d73, d74, d75, d78, d80, d83, d84, d91, d92, -⟩ := dd5_countWords_b55
  refine LP4_i (P := fun M a0 a2 a4 o => X Ll i5_countWords 55 [(0, vr a0), (2, vl a2), (4, vi a4)] [] M o) (fun _ _ _ _ => X_none) (fun rc ih M a0 a2 a4 => ?_) FU
  unfold f5_countWords_b55_body
  refine X_iload 2 d55 rfl ?_
  refine X_aloadn 0 d57 rfl ?_
  refine X_getI d58 fg_x5_75 ?_
  refine X_icmp_ge (t := 91) d61 rfl (fun h61 => ?_) (fun h61 => ?_)
  · refine X_lloadn 1 d91 rfl ?_
    exact X_lreturn d92 rfl rfl
  · refine X_aloadn 0 d64 rfl ?_
    refine X_iload 2 d65 rfl ?_
    refine X_cVi (as := [vi a4]) d67 cv_x5_156 ⟨by decide, by decide⟩ rfl (Nat.le_of_ble_eq_true rfl) (T5_isGoodNode M a0 a4) (fun r67 M67 _ => ?_)
    refine X_if_eq (t := 85) d70 rfl (fun h70 => ?_) (fun h70 => ?_)
    · exact (T5_countWords_b85 ih) M67 a0 a2 a4
    · refine X_lloadn 1 d73 rfl ?_
      refine X_aloadn 0 d74 rfl ?_
      refine X_getR d75 fg_x5_52 ?_
      refine X_iload 2 d78 rfl ?_
      refine X_cVl (as := [vi a4]) d80 cv_x5_159 ⟨by decide, by decide⟩ rfl (Nat.le_of_ble_eq_true rfl) (T4_get M67 (mR M67 a0 10) a4) (fun r80 M80 _ => ?_)
      refine X_ladd d83 ?_
      refine X_bWl fun v84 _ => ?_
      refine X_lstoren (lv' := [(2, vl v84), (0, vr a0), (4, vi a4)]) d84 (by decide) rfl ?_
      refine X_sub [1, 0, 2] rfl ?_
      exact (T5_countWords_b85 ih) M80 a0 v84 a4

theorem dd5_countWords_b35 : AllD (ib i5_countWords) [(35, .iload_n 2, 1), (36, .iload_n 1, 1), (37, .if_icmp .ge 13, 3), (40, .aload_n 0, 1), (41, .invokevirtual 153, 3), (44, .iinc 2 1, 3), (47, .goto (-12), 3), (50, .lconst 0, 1), (51, .lstore_n 2, 1), (52, .iconst 0, 1), (53, .istore 4, 2)] := allD_of (by decide +kernel)
def f5_countWords_b35_body (rc : MM → Nat → Int32 → Int32 → Option (Int64 × MM)) (M : MM) (a0 : Nat) (a1 : Int32) (a2 : Int32) : Option (Int64 × MM) :=
  if a1 ≤ a2 then
    f5_countWords_b55 M a0 (0 : Int64) (0 : Int32)
  else
    aO M a0 5 <|
    cV (f5_lengthenWords M a0) fun M41 =>
    rc M41 a0 a1 (a2 + (1 : Int32))
def f5_countWords_b35 : MM → Nat → Int32 → Int32 → Option (Int64 × MM) := LP4 (f5_countWords_b35_body) FU
set_option maxRecDepth 4000 in
theorem T5_countWords_b35 : ∀ (M : MM) (a0 : Nat) (a1 : Int32) (a2 : Int32), X Ll i5_countWords 35 [(0, vr a0), (1, vi a1), (2, vi a2)] [] M (f5_countWords_b35 M a0 a1 a2) := by
  obtain ⟨d35, d36, d37, d40, d41, d44, d47, d50, d51, d52, d53, -⟩ := dd5_countWords_b35
  refine LP4_i (P := fun M a0 a1 a2 o => X Ll i5_countWords 35 [(0, vr a0), (1, vi a1), (2, vi a2)] [] M o) (fun _ _ _ _ => X_none) (fun rc ih M a0 a1 a2 => ?_) FU
  unfold f5_countWords_b35_body
  refine X_iloadn 2 d35 rfl ?_
  refine X_iloadn 1 d36 rfl ?_
  refine X_icmp_ge (t := 50) d37 rfl (fun h37 => ?_) (fun h37 => ?_)
  · refine X_lconst k_l_0 d50 ?_
    refine X_lstoren (lv' := [(2, vl (0 : Int64)), (0, vr a0), (1, vi a1)]) d51 (by decide) rfl ?_
    refine X_iconst k_i_0 d52 ?_
    refine X_istore (lv' := [(4, vi (0 : Int32)), (2, vl (0 : Int64)), (0, vr a0), (1, vi a1)]) d53 (by decide) rfl ?_
    refine X_sub [2, 1, 0] rfl ?_
    exact T5_countWords_b55 M a0 (0 : Int64) (0 : Int32)
  · refine X_aloadn 0 d40 rfl ?_
    refine X_cVv (as := []) d41 cv_x5_153 ⟨by decide, by decide⟩ rfl (Nat.le_of_ble_eq_true rfl) (T5_lengthenWords M a0) (fun M41 _ => ?_)
    refine X_inc (lv' := [(2, vi (a2 + (1 : Int32))), (0, vr a0), (1, vi a1)]) 2 d44 k_i_1 rfl (by decide) rfl ?_
    refine X_goto (t := 35) d47 rfl ?_
    refine X_sub [1, 2, 0] rfl ?_
    exact ih M41 a0 a1 (a2 + (1 : Int32))

theorem dd5_countWords_b2 : AllD (ib i5_countWords) [(2, .iload_n 2, 1), (3, .aload_n 0, 1), (4, .getfield 75, 3), (7, .if_icmp .ge 26, 3), (10, .aload_n 0, 1), (11, .getfield 52, 3), (14, .iload_n 2, 1), (15, .iload_n 2, 1), (16, .ifCond .ne 7, 3), (19, .lconst 1, 1), (20, .goto 4, 3), (23, .lconst 0, 1), (33, .iconst 0, 1), (34, .istore_n 2, 1)] := allD_of (by decide +kernel)
def f5_countWords_b2_body (rc : MM → Nat → Int32 → Int32 → Option (Int64 × MM)) (M : MM) (a0 : Nat) (a1 : Int32) (a2 : Int32) : Option (Int64 × MM) :=
  aO M a0 5 <|
  if (mI M a0 17) ≤ a2 then
    f5_countWords_b35 M a0 a1 (0 : Int32)
  else
    aO M a0 5 <|
    if a2 = 0 then
      (f5_countWords_b24 rc) M a0 a1 a2 (1 : Int64) a2 (mR M a0 10)
    else
      (f5_countWords_b24 rc) M a0 a1 a2 (0 : Int64) a2 (mR M a0 10)
def f5_countWords_b2 : MM → Nat → Int32 → Int32 → Option (Int64 × MM) := LP4 (f5_countWords_b2_body) FU
set_option maxRecDepth 4000 in
theorem T5_countWords_b2 : ∀ (M : MM) (a0 : Nat) (a1 : Int32) (a2 : Int32), X Ll i5_countWords 2 [(0, vr a0), (1, vi a1), (2, vi a2)] [] M (f5_countWords_b2 M a0 a1 a2) := by
  obtain ⟨d2, d3, d4, d7, d10, d11, d14, d15, d16, d19, d20, d23, d33, d34, -⟩ := dd5_countWords_b2
  refine LP4_i (P := fun M a0 a1 a2 o => X Ll i5_countWords 2 [(0, vr a0), (1, vi a1), (2, vi a2)] [] M o) (fun _ _ _ _ => X_none) (fun rc ih M a0 a1 a2 => ?_) FU
  unfold f5_countWords_b2_body
  refine X_iloadn 2 d2 rfl ?_
  refine X_aloadn 0 d3 rfl ?_
  refine X_getI d4 fg_x5_75 ?_
  refine X_icmp_ge (t := 33) d7 rfl (fun h7 => ?_) (fun h7 => ?_)
  · refine X_iconst k_i_0 d33 ?_
    refine X_istoren (lv' := [(2, vi (0 : Int32)), (0, vr a0), (1, vi a1)]) d34 (by decide) rfl ?_
    refine X_sub [1, 2, 0] rfl ?_
    exact T5_countWords_b35 M a0 a1 (0 : Int32)
  · refine X_aloadn 0 d10 rfl ?_
    refine X_getR d11 fg_x5_52 ?_
    refine X_iloadn 2 d14 rfl ?_
    refine X_iloadn 2 d15 rfl ?_
    refine X_if_ne (t := 23) d16 rfl (fun h16 => ?_) (fun h16 => ?_)
    · refine X_lconst k_l_1 d19 ?_
      refine X_goto (t := 24) d20 rfl ?_
      exact (T5_countWords_b24 ih) M a0 a1 a2 (1 : Int64) a2 (mR M a0 10)
    · refine X_lconst k_l_0 d23 ?_
      exact (T5_countWords_b24 ih) M a0 a1 a2 (0 : Int64) a2 (mR M a0 10)

theorem dd5_countWords : AllD (ib i5_countWords) [(0, .iconst 0, 1), (1, .istore_n 2, 1)] := allD_of (by decide +kernel)
def f5_countWords (M : MM) (a0 : Nat) (a1 : Int32) : Option (Int64 × MM) :=
  f5_countWords_b2 M a0 a1 (0 : Int32)
set_option maxRecDepth 4000 in
theorem T5_countWords (M : MM) (a0 : Nat) (a1 : Int32) : ∀ q, f5_countWords M a0 a1 = some q → Run i5_countWords [vr a0, vi a1] M (Ll q) := by
  obtain ⟨d0, d1, -⟩ := dd5_countWords
  refine Run_of_X (by decide) (Nat.le_of_ble_eq_true rfl) ?_
  show X Ll i5_countWords 0 [(0, vr a0), (1, vi a1)] [] M _
  unfold f5_countWords
  refine X_iconst k_i_0 d0 ?_
  refine X_istoren (lv' := [(2, vi (0 : Int32)), (0, vr a0), (1, vi a1)]) d1 (by decide) rfl ?_
  refine X_sub [1, 2, 0] rfl ?_
  exact T5_countWords_b2 M a0 a1 (0 : Int32)

theorem dd5_parentOf : AllD (ib i5_parentOf) [(0, .aload_n 0, 1), (1, .getfield 46, 3), (4, .iload_n 1, 1), (5, .invokevirtual 95, 3), (8, .bipush 6, 2), (10, .idiv, 1), (11, .ireturn, 1)] := allD_of (by decide +kernel)
def f5_parentOf (M : MM) (a0 : Nat) (a1 : Int32) : Option (Int32 × MM) :=
  aO M a0 5 <|
  aO M (mR M a0 9) 3 <|
  cI (f3_get M (mR M a0 9) a1) fun r5 M5 =>
  gd (¬ (6 : Int32) = 0) <|
  some (r5 / (6 : Int32), M5)
set_option maxRecDepth 4000 in
theorem T5_parentOf (M : MM) (a0 : Nat) (a1 : Int32) : ∀ q, f5_parentOf M a0 a1 = some q → Run i5_parentOf [vr a0, vi a1] M (Li q) := by
  obtain ⟨d0, d1, d4, d5, d8, d10, d11, -⟩ := dd5_parentOf
  refine Run_of_X (by decide) (Nat.le_of_ble_eq_true rfl) ?_
  show X Li i5_parentOf 0 [(0, vr a0), (1, vi a1)] [] M _
  unfold f5_parentOf
  refine X_aloadn 0 d0 rfl ?_
  refine X_getR d1 fg_x5_46 ?_
  refine X_iloadn 1 d4 rfl ?_
  refine X_cVi (as := [vi a1]) d5 cv_x5_95 ⟨by decide, by decide⟩ rfl (Nat.le_of_ble_eq_true rfl) (T3_get M (mR M a0 9) a1) (fun r5 M5 _ => ?_)
  refine X_bipush k_b_6 d8 ?_
  refine X_idiv d10 ?_
  exact X_ireturn d11 rfl rfl

theorem dd5_depthOf_b4 : AllD (ib i5_depthOf) [(4, .iload_n 3, 1), (5, .ifCond .le 23, 3), (8, .iload_n 2, 1), (9, .aload_n 0, 1), (10, .getfield 75, 3), (13, .if_icmp .ge 15, 3), (16, .iinc 2 1, 3), (19, .aload_n 0, 1), (20, .iload_n 3, 1), (21, .invokevirtual 165, 3), (24, .istore_n 3, 1), (25, .goto (-21), 3), (28, .iload_n 2, 1), (29, .ireturn, 1)] := allD_of (by decide +kernel)
def f5_depthOf_b4_body (rc : MM → Nat → Int32 → Int32 → Option (Int32 × MM)) (M : MM) (a0 : Nat) (a2 : Int32) (a3 : Int32) : Option (Int32 × MM) :=
  if a3 ≤ 0 then
    some (a2, M)
  else
    aO M a0 5 <|
    if (mI M a0 17) ≤ a2 then
      some (a2, M)
    else
      aO M a0 5 <|
      cI (f5_parentOf M a0 a3) fun r21 M21 =>
      rc M21 a0 (a2 + (1 : Int32)) r21
def f5_depthOf_b4 : MM → Nat → Int32 → Int32 → Option (Int32 × MM) := LP4 (f5_depthOf_b4_body) FU
set_option maxRecDepth 4000 in
theorem T5_depthOf_b4 : ∀ (M : MM) (a0 : Nat) (a2 : Int32) (a3 : Int32), X Li i5_depthOf 4 [(0, vr a0), (2, vi a2), (3, vi a3)] [] M (f5_depthOf_b4 M a0 a2 a3) := by
  obtain ⟨d4, d5, d8, d9, d10, d13, d16, d19, d20, d21, d24, d25, d28, d29, -⟩ := dd5_depthOf_b4
  refine LP4_i (P := fun M a0 a2 a3 o => X Li i5_depthOf 4 [(0, vr a0), (2, vi a2), (3, vi a3)] [] M o) (fun _ _ _ _ => X_none) (fun rc ih M a0 a2 a3 => ?_) FU
  unfold f5_depthOf_b4_body
  refine X_iloadn 2 d4 rfl ?_
  refine X_if_le (t := 28) d5 rfl (fun h5 => ?_) (fun h5 => ?_)
  · refine X_iloadn 1 d28 rfl ?_
    exact X_ireturn d29 rfl rfl
  · refine X_iloadn 1 d8 rfl ?_
    refine X_aloadn 0 d9 rfl ?_
    refine X_getI d10 fg_x5_75 ?_
    refine X_icmp_ge (t := 28) d13 rfl (fun h13 => ?_) (fun h13 => ?_)
    · refine X_iloadn 1 d28 rfl ?_
      exact X_ireturn d29 rfl rfl
    · refine X_inc (lv' := [(2, vi (a2 + (1 : Int32))), (0, vr a0), (3, vi a3)]) 1 d16 k_i_1 rfl (by decide) rfl ?_
      refine X_aloadn 1 d19 rfl ?_
      refine X_iloadn 2 d20 rfl ?_
      refine X_cVi (as := [vi a3]) d21 cv_x5_165 ⟨by decide, by decide⟩ rfl (Nat.le_of_ble_eq_true rfl) (T5_parentOf M a0 a3) (fun r21 M21 _ => ?_)
      refine X_istoren (lv' := [(3, vi r21), (2, vi (a2 + (1 : Int32))), (0, vr a0)]) d24 (by decide) rfl ?_
      refine X_goto (t := 4) d25 rfl ?_
      refine X_sub [2, 1, 0] rfl ?_
      exact ih M21 a0 (a2 + (1 : Int32)) r21

theorem dd5_depthOf : AllD (ib i5_depthOf) [(0, .iconst 0, 1), (1, .istore_n 2, 1), (2, .iload_n 1, 1), (3, .istore_n 3, 1)] := allD_of (by decide +kernel)
def f5_depthOf (M : MM) (a0 : Nat) (a1 : Int32) : Option (Int32 × MM) :=
  f5_depthOf_b4 M a0 (0 : Int32) a1
set_option maxRecDepth 4000 in
theorem T5_depthOf (M : MM) (a0 : Nat) (a1 : Int32) : ∀ q, f5_depthOf M a0 a1 = some q → Run i5_depthOf [vr a0, vi a1] M (Li q) := by
  obtain ⟨d0, d1, d2, d3, -⟩ := dd5_depthOf
  refine Run_of_X (by decide) (Nat.le_of_ble_eq_true rfl) ?_
  show X Li i5_depthOf 0 [(0, vr a0), (1, vi a1)] [] M _
  unfold f5_depthOf
  refine X_iconst k_i_0 d0 ?_
  refine X_istoren (lv' := [(2, vi (0 : Int32)), (0, vr a0), (1, vi a1)]) d1 (by decide) rfl ?_
  refine X_iloadn 2 d2 rfl ?_
  refine X_istoren (lv' := [(3, vi a1), (2, vi (0 : Int32)), (0, vr a0), (1, vi a1)]) d3 (by decide) rfl ?_
  refine X_sub [2, 1, 0] rfl ?_
  exact T5_depthOf_b4 M a0 (0 : Int32) a1

theorem dd5_findAlike_b5 : AllD (ib i5_findAlike) [(5, .iload 4, 2), (7, .aload_n 0, 1), (8, .getfield 69, 3), (11, .if_icmp .ge 34, 3), (14, .iload_n 3, 1), (15, .iconst (-1), 1), (16, .if_icmp .eq 29, 3), (19, .aload_n 0, 1), (20, .iload_n 1, 1), (21, .iload_n 3, 1), (22, .invokevirtual 140, 3), (25, .ifCond .eq 5, 3), (28, .iload_n 3, 1), (29, .ireturn, 1), (30, .aload_n 0, 1), (31, .getfield 28, 3), (34, .iload_n 3, 1), (35, .invokevirtual 95, 3), (38, .istore_n 3, 1), (39, .iinc 4 1, 3), (42, .goto (-37), 3), (45, .iconst (-1), 1), (46, .ireturn, 1)] := allD_of (by decide +kernel)
def f5_findAlike_b5_body (rc : MM → Nat → Int32 → Int32 → Int32 → Option (Int32 × MM)) (M : MM) (a0 : Nat) (a1 : Int32) (a3 : Int32) (a4 : Int32) : Option (Int32 × MM) :=
  aO M a0 5 <|
  if (mI M a0 15) ≤ a4 then
    some ((-1 : Int32), M)
  else
    if a3 = (-1 : Int32) then
      some ((-1 : Int32), M)
    else
      aO M a0 5 <|
      cI (f5_areAlike M a0 a1 a3) fun r22 M22 =>
      if r22 = 0 then
        aO M22 a0 5 <|
        aO M22 (mR M22 a0 3) 3 <|
        cI (f3_get M22 (mR M22 a0 3) a3) fun r35 M35 =>
        rc M35 a0 a1 r35 (a4 + (1 : Int32))
      else
        some (a3, M22)
def f5_findAlike_b5 : MM → Nat → Int32 → Int32 → Int32 → Option (Int32 × MM) := LP5 (f5_findAlike_b5_body) FU
set_option maxRecDepth 4000 in
theorem T5_findAlike_b5 : ∀ (M : MM) (a0 : Nat) (a1 : Int32) (a3 : Int32) (a4 : Int32), X Li i5_findAlike 5 [(0, vr a0), (1, vi a1), (3, vi a3), (4, vi a4)] [] M (f5_findAlike_b5 M a0 a1 a3 a4) := by
  obtain ⟨d5, d7, d8, d11, d14, d15, d16, d19, d20, d21, d22, d25, d28, d29, d30, d31, d34, d35, d38, d39, d42, d45, d46, -⟩ := dd5_findAlike_b5
  refine LP5_i (P := fun M a0 a1 a3 a4 o => X Li i5_findAlike 5 [(0, vr a0), (1, vi a1), (3, vi a3), (4, vi a4)] [] M o) (fun _ _ _ _ _ => X_none) (fun rc ih M a0 a1 a3 a4 => ?_) FU
  unfold f5_findAlike_b5_body
  refine X_iload 3 d5 rfl ?_
  refine X_aloadn 0 d7 rfl ?_
  refine X_getI d8 fg_x5_69 ?_
  refine X_icmp_ge (t := 45) d11 rfl (fun h11 => ?_) (fun h11 => ?_)
  · refine X_iconst k_i_m1 d45 ?_
    exact X_ireturn d46 rfl rfl
  · refine X_iloadn 2 d14 rfl ?_
    refine X_iconst k_i_m1 d15 ?_
    refine X_icmp_eq (t := 45) d16 rfl (fun h16 => ?_) (fun h16 => ?_)
    · refine X_iconst k_i_m1 d45 ?_
      exact X_ireturn d46 rfl rfl
    · refine X_aloadn 0 d19 rfl ?_
      refine X_iloadn 1 d20 rfl ?_
      refine X_iloadn 2 d21 rfl ?_
      refine X_cVi (as := [vi a1, vi a3]) d22 cv_x5_140 ⟨by decide, by decide⟩ rfl (Nat.le_of_ble_eq_true rfl) (T5_areAlike M a0 a1 a3) (fun r22 M22 _ => ?_)
      refine X_if_eq (t := 30) d25 rfl (fun h25 => ?_) (fun h25 => ?_)
      · refine X_aloadn 0 d30 rfl ?_
        refine X_getR d31 fg_x5_28 ?_
        refine X_iloadn 2 d34 rfl ?_
        refine X_cVi (as := [vi a3]) d35 cv_x5_95 ⟨by decide, by decide⟩ rfl (Nat.le_of_ble_eq_true rfl) (T3_get M22 (mR M22 a0 3) a3) (fun r35 M35 _ => ?_)
        refine X_istoren (lv' := [(3, vi r35), (0, vr a0), (1, vi a1), (4, vi a4)]) d38 (by decide) rfl ?_
        refine X_inc (lv' := [(4, vi (a4 + (1 : Int32))), (3, vi r35), (0, vr a0), (1, vi a1)]) 3 d39 k_i_1 rfl (by decide) rfl ?_
        refine X_goto (t := 5) d42 rfl ?_
        refine X_sub [2, 3, 1, 0] rfl ?_
        exact ih M35 a0 a1 r35 (a4 + (1 : Int32))
      · refine X_iloadn 2 d28 rfl ?_
        exact X_ireturn d29 rfl rfl

theorem dd5_findAlike : AllD (ib i5_findAlike) [(0, .iload_n 2, 1), (1, .istore_n 3, 1), (2, .iconst 0, 1), (3, .istore 4, 2)] := allD_of (by decide +kernel)
def f5_findAlike (M : MM) (a0 : Nat) (a1 : Int32) (a2 : Int32) : Option (Int32 × MM) :=
  f5_findAlike_b5 M a0 a1 a2 (0 : Int32)
set_option maxRecDepth 4000 in
theorem T5_findAlike (M : MM) (a0 : Nat) (a1 : Int32) (a2 : Int32) : ∀ q, f5_findAlike M a0 a1 a2 = some q → Run i5_findAlike [vr a0, vi a1, vi a2] M (Li q) := by
  obtain ⟨d0, d1, d2, d3, -⟩ := dd5_findAlike
  refine Run_of_X (by decide) (Nat.le_of_ble_eq_true rfl) ?_
  show X Li i5_findAlike 0 [(0, vr a0), (1, vi a1), (2, vi a2)] [] M _
  unfold f5_findAlike
  refine X_iloadn 2 d0 rfl ?_
  refine X_istoren (lv' := [(3, vi a2), (0, vr a0), (1, vi a1), (2, vi a2)]) d1 (by decide) rfl ?_
  refine X_iconst k_i_0 d2 ?_
  refine X_istore (lv' := [(4, vi (0 : Int32)), (3, vi a2), (0, vr a0), (1, vi a1), (2, vi a2)]) d3 (by decide) rfl ?_
  refine X_sub [2, 3, 1, 0] rfl ?_
  exact T5_findAlike_b5 M a0 a1 a2 (0 : Int32)

theorem dd5_firstGoodNode_b2 : AllD (ib i5_firstGoodNode) [(2, .iload_n 1, 1), (3, .aload_n 0, 1), (4, .getfield 75, 3), (7, .if_icmp .ge 19, 3), (10, .aload_n 0, 1), (11, .iload_n 1, 1), (12, .invokevirtual 156, 3), (15, .ifCond .eq 5, 3), (18, .iload_n 1, 1), (19, .ireturn, 1), (20, .iinc 1 1, 3), (23, .goto (-21), 3), (26, .iconst (-1), 1), (27, .ireturn, 1)] := allD_of (by decide +kernel)
def f5_firstGoodNode_b2_body (rc : MM → Nat → Int32 → Option (Int32 × MM)) (M : MM) (a0 : Nat) (a1 : Int32) : Option (Int32 × MM) :=
  aO M a0 5 <|
  if (mI M a0 17) ≤ a1 then
    some ((-1 : Int32), M)
  else
    aO M a0 5 <|
    cI (f5_isGoodNode M a0 a1) fun r12 M12 =>
    if r12 = 0 then
      rc M12 a0 (a1 + (1 : Int32))
    else
      some (a1, M12)
def f5_firstGoodNode_b2 : MM → Nat → Int32 → Option (Int32 × MM) := LP3 (f5_firstGoodNode_b2_body) FU
set_option maxRecDepth 4000 in
theorem T5_firstGoodNode_b2 : ∀ (M : MM) (a0 : Nat) (a1 : Int32), X Li i5_firstGoodNode 2 [(0, vr a0), (1, vi a1)] [] M (f5_firstGoodNode_b2 M a0 a1) := by
  obtain ⟨d2, d3, d4, d7, d10, d11, d12, d15, d18, d19, d20, d23, d26, d27, -⟩ := dd5_firstGoodNode_b2
  refine LP3_i (P := fun M a0 a1 o => X Li i5_firstGoodNode 2 [(0, vr a0), (1, vi a1)] [] M o) (fun _ _ _ => X_none) (fun rc ih M a0 a1 => ?_) FU
  unfold f5_firstGoodNode_b2_body
  refine X_iloadn 1 d2 rfl ?_
  refine X_aloadn 0 d3 rfl ?_
  refine X_getI d4 fg_x5_75 ?_
  refine X_icmp_ge (t := 26) d7 rfl (fun h7 => ?_) (fun h7 => ?_)
  · refine X_iconst k_i_m1 d26 ?_
    exact X_ireturn d27 rfl rfl
  · refine X_aloadn 0 d10 rfl ?_
    refine X_iloadn 1 d11 rfl ?_
    refine X_cVi (as := [vi a1]) d12 cv_x5_156 ⟨by decide, by decide⟩ rfl (Nat.le_of_ble_eq_true rfl) (T5_isGoodNode M a0 a1) (fun r12 M12 _ => ?_)
    refine X_if_eq (t := 20) d15 rfl (fun h15 => ?_) (fun h15 => ?_)
    · refine X_inc (lv' := [(1, vi (a1 + (1 : Int32))), (0, vr a0)]) 1 d20 k_i_1 rfl (by decide) rfl ?_
      refine X_goto (t := 2) d23 rfl ?_
      refine X_sub [1, 0] rfl ?_
      exact ih M12 a0 (a1 + (1 : Int32))
    · refine X_iloadn 1 d18 rfl ?_
      exact X_ireturn d19 rfl rfl

theorem dd5_firstGoodNode : AllD (ib i5_firstGoodNode) [(0, .iconst 0, 1), (1, .istore_n 1, 1)] := allD_of (by decide +kernel)
def f5_firstGoodNode (M : MM) (a0 : Nat) : Option (Int32 × MM) :=
  f5_firstGoodNode_b2 M a0 (0 : Int32)
set_option maxRecDepth 4000 in
theorem T5_firstGoodNode (M : MM) (a0 : Nat) : ∀ q, f5_firstGoodNode M a0 = some q → Run i5_firstGoodNode [vr a0] M (Li q) := by
  obtain ⟨d0, d1, -⟩ := dd5_firstGoodNode
  refine Run_of_X (by decide) (Nat.le_of_ble_eq_true rfl) ?_
  show X Li i5_firstGoodNode 0 [(0, vr a0)] [] M _
  unfold f5_firstGoodNode
  refine X_iconst k_i_0 d0 ?_
  refine X_istoren (lv' := [(1, vi (0 : Int32)), (0, vr a0)]) d1 (by decide) rfl ?_
  refine X_sub [1, 0] rfl ?_
  exact T5_firstGoodNode_b2 M a0 (0 : Int32)

theorem dd5_hasNode : AllD (ib i5_hasNode) [(0, .iload_n 1, 1), (1, .ifCond .lt 15, 3), (4, .iload_n 1, 1), (5, .aload_n 0, 1), (6, .getfield 75, 3), (9, .if_icmp .ge 7, 3), (12, .iconst 1, 1), (13, .goto 4, 3), (16, .iconst 0, 1), (17, .ireturn, 1)] := allD_of (by decide +kernel)
def f5_hasNode (M : MM) (a0 : Nat) (a1 : Int32) : Option (Int32 × MM) :=
  if a1 < 0 then
    some ((0 : Int32), M)
  else
    aO M a0 5 <|
    if (mI M a0 17) ≤ a1 then
      some ((0 : Int32), M)
    else
      some ((1 : Int32), M)
set_option maxRecDepth 4000 in
theorem T5_hasNode (M : MM) (a0 : Nat) (a1 : Int32) : ∀ q, f5_hasNode M a0 a1 = some q → Run i5_hasNode [vr a0, vi a1] M (Li q) := by
  obtain ⟨d0, d1, d4, d5, d6, d9, d12, d13, d16, d17, -⟩ := dd5_hasNode
  refine Run_of_X (by decide) (Nat.le_of_ble_eq_true rfl) ?_
  show X Li i5_hasNode 0 [(0, vr a0), (1, vi a1)] [] M _
  unfold f5_hasNode
  refine X_iloadn 1 d0 rfl ?_
  refine X_if_lt (t := 16) d1 rfl (fun h1 => ?_) (fun h1 => ?_)
  · refine X_iconst k_i_0 d16 ?_
    exact X_zreturnc d17 rfl (by decide) rfl
  · refine X_iloadn 1 d4 rfl ?_
    refine X_aloadn 0 d5 rfl ?_
    refine X_getI d6 fg_x5_75 ?_
    refine X_icmp_ge (t := 16) d9 rfl (fun h9 => ?_) (fun h9 => ?_)
    · refine X_iconst k_i_0 d16 ?_
      exact X_zreturnc d17 rfl (by decide) rfl
    · refine X_iconst k_i_1 d12 ?_
      refine X_goto (t := 17) d13 rfl ?_
      exact X_zreturnc d17 rfl (by decide) rfl

theorem dd5_init : AllD (ib i5_init) [(0, .aload_n 0, 1), (1, .invokespecial 3, 3), (4, .aload_n 0, 1), (5, .new 9, 3), (8, .dup, 1), (9, .bipush 90, 2), (11, .invokespecial 13, 3), (14, .putfield 16, 3), (17, .aload_n 0, 1), (18, .new 9, 3), (21, .dup, 1), (22, .sipush 256, 3), (25, .invokespecial 13, 3), (28, .putfield 22, 3), (31, .aload_n 0, 1), (32, .new 9, 3), (35, .dup, 1), (36, .bipush 64, 2), (38, .invokespecial 13, 3), (41, .putfield 25, 3), (44, .aload_n 0, 1), (45, .new 9, 3), (48, .dup, 1), (49, .bipush 64, 2), (51, .invokespecial 13, 3), (54, .putfield 28, 3), (57, .aload_n 0, 1), (58, .new 9, 3), (61, .dup, 1), (62, .sipush 384, 3), (65, .invokespecial 13, 3), (68, .putfield 31, 3), (71, .aload_n 0, 1), (72, .new 9, 3), (75, .dup, 1), (76, .bipush 64, 2), (78, .invokespecial 13, 3), (81, .putfield 34, 3), (84, .aload_n 0, 1), (85, .new 9, 3), (88, .dup, 1), (89, .bipush 64, 2), (91, .invokespecial 13, 3), (94, .putfield 37, 3), (97, .aload_n 0, 1), (98, .new 9, 3), (101, .dup, 1), (102, .bipush 64, 2), (104, .invokespecial 13, 3), (107, .putfield 40, 3), (110, .aload_n 0, 1), (111, .new 9, 3), (114, .dup, 1), (115, .bipush 64, 2), (117, .invokespecial 13, 3), (120, .putfield 43, 3), (123, .aload_n 0, 1), (124, .new 9, 3), (127, .dup, 1), (128, .bipush 64, 2), (130, .invokespecial 13, 3), (133, .putfield 46, 3), (136, .aload_n 0, 1), (137, .new 49, 3), (140, .dup, 1), (141, .bipush 64, 2), (143, .invokespecial 51, 3), (146, .putfield 52, 3), (149, .aload_n 0, 1), (150, .new 49, 3), (153, .dup, 1), (154, .bipush 64, 2), (156, .invokespecial 51, 3), (159, .putfield 56, 3), (162, .aload_n 0, 1), (163, .bipush 64, 2), (165, .putfield 59, 3), (168, .aload_n 0, 1), (169, .iconst 0, 1), (170, .putfield 63, 3), (173, .aload_n 0, 1), (174, .iconst 0, 1), (175, .putfield 66, 3), (178, .aload_n 0, 1), (179, .iconst 0, 1), (180, .putfield 69, 3), (183, .aload_n 0, 1), (184, .iconst (-1), 1), (185, .putfield 72, 3), (188, .aload_n 0, 1), (189, .iconst 0, 1), (190, .putfield 75, 3), (193, .return_, 1)] := allD_of (by decide +kernel)
def f5_init (M : MM) (a0 : Nat) : Option MM :=
  gd (a0 ≠ 0) <|
  bW (mz M) fun q5 =>
  bM (nw M 6 1) fun M5 =>
  gd (q5 ≠ 0) <|
  cV (f3_init M5 q5 (90 : Int32)) fun M11 =>
  aO M11 a0 5 <|
  bM (sR M11 a0 0 q5) fun M14 =>
  bW (mz M14) fun q18 =>
  bM (nw M14 6 1) fun M18 =>
  gd (q18 ≠ 0) <|
  cV (f3_init M18 q18 (256 : Int32)) fun M25 =>
  aO M25 a0 5 <|
  bM (sR M25 a0 1 q18) fun M28 =>
  bW (mz M28) fun q32 =>
  bM (nw M28 6 1) fun M32 =>
  gd (q32 ≠ 0) <|
  cV (f3_init M32 q32 (64 : Int32)) fun M38 =>
  aO M38 a0 5 <|
  bM (sR M38 a0 2 q32) fun M41 =>
  bW (mz M41) fun q45 =>
  bM (nw M41 6 1) fun M45 =>
  gd (q45 ≠ 0) <|
  cV (f3_init M45 q45 (64 : Int32)) fun M51 =>
  aO M51 a0 5 <|
  bM (sR M51 a0 3 q45) fun M54 =>
  bW (mz M54) fun q58 =>
  bM (nw M54 6 1) fun M58 =>
  gd (q58 ≠ 0) <|
  cV (f3_init M58 q58 (384 : Int32)) fun M65 =>
  aO M65 a0 5 <|
  bM (sR M65 a0 4 q58) fun M68 =>
  bW (mz M68) fun q72 =>
  bM (nw M68 6 1) fun M72 =>
  gd (q72 ≠ 0) <|
  cV (f3_init M72 q72 (64 : Int32)) fun M78 =>
  aO M78 a0 5 <|
  bM (sR M78 a0 5 q72) fun M81 =>
  bW (mz M81) fun q85 =>
  bM (nw M81 6 1) fun M85 =>
  gd (q85 ≠ 0) <|
  cV (f3_init M85 q85 (64 : Int32)) fun M91 =>
  aO M91 a0 5 <|
  bM (sR M91 a0 6 q85) fun M94 =>
  bW (mz M94) fun q98 =>
  bM (nw M94 6 1) fun M98 =>
  gd (q98 ≠ 0) <|
  cV (f3_init M98 q98 (64 : Int32)) fun M104 =>
  aO M104 a0 5 <|
  bM (sR M104 a0 7 q98) fun M107 =>
  bW (mz M107) fun q111 =>
  bM (nw M107 6 1) fun M111 =>
  gd (q111 ≠ 0) <|
  cV (f3_init M111 q111 (64 : Int32)) fun M117 =>
  aO M117 a0 5 <|
  bM (sR M117 a0 8 q111) fun M120 =>
  bW (mz M120) fun q124 =>
  bM (nw M120 6 1) fun M124 =>
  gd (q124 ≠ 0) <|
  cV (f3_init M124 q124 (64 : Int32)) fun M130 =>
  aO M130 a0 5 <|
  bM (sR M130 a0 9 q124) fun M133 =>
  bW (mz M133) fun q137 =>
  bM (nw M133 7 1) fun M137 =>
  gd (q137 ≠ 0) <|
  cV (f4_init M137 q137 (64 : Int32)) fun M143 =>
  aO M143 a0 5 <|
  bM (sR M143 a0 10 q137) fun M146 =>
  bW (mz M146) fun q150 =>
  bM (nw M146 7 1) fun M150 =>
  gd (q150 ≠ 0) <|
  cV (f4_init M150 q150 (64 : Int32)) fun M156 =>
  aO M156 a0 5 <|
  bM (sR M156 a0 11 q150) fun M159 =>
  aO M159 a0 5 <|
  bM (sI M159 a0 12 (64 : Int32)) fun M165 =>
  aO M165 a0 5 <|
  bM (sI M165 a0 13 (0 : Int32)) fun M170 =>
  aO M170 a0 5 <|
  bM (sI M170 a0 14 (0 : Int32)) fun M175 =>
  aO M175 a0 5 <|
  bM (sI M175 a0 15 (0 : Int32)) fun M180 =>
  aO M180 a0 5 <|
  bM (sI M180 a0 16 (-1 : Int32)) fun M185 =>
  aO M185 a0 5 <|
  bM (sI M185 a0 17 (0 : Int32)) fun M190 =>
  some M190
set_option maxRecDepth 4000 in
theorem T5_init (M : MM) (a0 : Nat) : ∀ q, f5_init M a0 = some q → Run i5_init [vr a0] M (Lv q) := by
  obtain ⟨d0, d1, d4, d5, d8, d9, d11, d14, d17, d18, d21, d22, d25, d28, d31, d32, d35, d36, d38, d41, d44, d45, d48, d49, d51, d54, d57, d58, d61, d62, d65, d68, d71, d72, d75, d76, d78, d81, d84, d85, d88, d89, d91, d94, d97, d98, d101, d102, d104, d107, d110, d111, d114, d115, d117, d120, d123, d124, d127, d128, d130, d133, d136, d137, d140, d141, d143, d146, d149, d150, d153, d154, d156, d159, d162, d163, d165, d168, d169, d170, d173, d174, d175, d178, d179, d180, d183, d184, d185, d188, d189, d190, d193, -⟩ := dd5_init
  refine Run_of_X (by decide) (Nat.le_of_ble_eq_true rfl) ?_
  show X Lv i5_init 0 [(0, vr a0)] [] M _
  unfold f5_init
  refine X_aloadn 0 d0 rfl ?_
  refine X_objInit d1 oi_x5_3 (by decide) (Nat.le_of_ble_eq_true rfl) ?_
  refine X_aloadn 0 d4 rfl ?_
  refine X_new d5 nc_x5_9 ?_
  refine X_bWr fun q5 _ => ?_
  refine X_bM fun M5 _ => ?_
  refine X_dupr d8 ?_
  refine X_bipush k_b_90 d9 ?_
  refine X_cIv (as := [vi (90 : Int32)]) d11 ci_x5_13 ⟨by decide, by decide⟩ rfl (Nat.le_of_ble_eq_true rfl) (T3_init M5 q5 (90 : Int32)) (fun M11 _ => ?_)
  refine X_putRF d14 fp_x5_16 (RefT.obj _) rfl rfl ?_
  refine X_bM fun M14 _ => ?_
  refine X_aloadn 0 d17 rfl ?_
  refine X_new d18 nc_x5_9 ?_
  refine X_bWr fun q18 _ => ?_
  refine X_bM fun M18 _ => ?_
  refine X_dupr d21 ?_
  refine X_sipush k_s_256 d22 ?_
  refine X_cIv (as := [vi (256 : Int32)]) d25 ci_x5_13 ⟨by decide, by decide⟩ rfl (Nat.le_of_ble_eq_true rfl) (T3_init M18 q18 (256 : Int32)) (fun M25 _ => ?_)
  refine X_putRF d28 fp_x5_22 (RefT.obj _) rfl rfl ?_
  refine X_bM fun M28 _ => ?_
  refine X_aloadn 0 d31 rfl ?_
  refine X_new d32 nc_x5_9 ?_
  refine X_bWr fun q32 _ => ?_
  refine X_bM fun M32 _ => ?_
  refine X_dupr d35 ?_
  refine X_bipush k_b_64 d36 ?_
  refine X_cIv (as := [vi (64 : Int32)]) d38 ci_x5_13 ⟨by decide, by decide⟩ rfl (Nat.le_of_ble_eq_true rfl) (T3_init M32 q32 (64 : Int32)) (fun M38 _ => ?_)
  refine X_putRF d41 fp_x5_25 (RefT.obj _) rfl rfl ?_
  refine X_bM fun M41 _ => ?_
  refine X_aloadn 0 d44 rfl ?_
  refine X_new d45 nc_x5_9 ?_
  refine X_bWr fun q45 _ => ?_
  refine X_bM fun M45 _ => ?_
  refine X_dupr d48 ?_
  refine X_bipush k_b_64 d49 ?_
  refine X_cIv (as := [vi (64 : Int32)]) d51 ci_x5_13 ⟨by decide, by decide⟩ rfl (Nat.le_of_ble_eq_true rfl) (T3_init M45 q45 (64 : Int32)) (fun M51 _ => ?_)
  refine X_putRF d54 fp_x5_28 (RefT.obj _) rfl rfl ?_
  refine X_bM fun M54 _ => ?_
  refine X_aloadn 0 d57 rfl ?_
  refine X_new d58 nc_x5_9 ?_
  refine X_bWr fun q58 _ => ?_
  refine X_bM fun M58 _ => ?_
  refine X_dupr d61 ?_
  refine X_sipush k_s_384 d62 ?_
  refine X_cIv (as := [vi (384 : Int32)]) d65 ci_x5_13 ⟨by decide, by decide⟩ rfl (Nat.le_of_ble_eq_true rfl) (T3_init M58 q58 (384 : Int32)) (fun M65 _ => ?_)
  refine X_putRF d68 fp_x5_31 (RefT.obj _) rfl rfl ?_
  refine X_bM fun M68 _ => ?_
  refine X_aloadn 0 d71 rfl ?_
  refine X_new d72 nc_x5_9 ?_
  refine X_bWr fun q72 _ => ?_
  refine X_bM fun M72 _ => ?_
  refine X_dupr d75 ?_
  refine X_bipush k_b_64 d76 ?_
  refine X_cIv (as := [vi (64 : Int32)]) d78 ci_x5_13 ⟨by decide, by decide⟩ rfl (Nat.le_of_ble_eq_true rfl) (T3_init M72 q72 (64 : Int32)) (fun M78 _ => ?_)
  refine X_putR d81 fp_x5_34 (RefT.obj _) ?_
  refine X_bM fun M81 _ => ?_
  refine X_aloadn 0 d84 rfl ?_
  refine X_new d85 nc_x5_9 ?_
  refine X_bWr fun q85 _ => ?_
  refine X_bM fun M85 _ => ?_
  refine X_dupr d88 ?_
  refine X_bipush k_b_64 d89 ?_
  refine X_cIv (as := [vi (64 : Int32)]) d91 ci_x5_13 ⟨by decide, by decide⟩ rfl (Nat.le_of_ble_eq_true rfl) (T3_init M85 q85 (64 : Int32)) (fun M91 _ => ?_)
  refine X_putR d94 fp_x5_37 (RefT.obj _) ?_
  refine X_bM fun M94 _ => ?_
  refine X_aloadn 0 d97 rfl ?_
  refine X_new d98 nc_x5_9 ?_
  refine X_bWr fun q98 _ => ?_
  refine X_bM fun M98 _ => ?_
  refine X_dupr d101 ?_
  refine X_bipush k_b_64 d102 ?_
  refine X_cIv (as := [vi (64 : Int32)]) d104 ci_x5_13 ⟨by decide, by decide⟩ rfl (Nat.le_of_ble_eq_true rfl) (T3_init M98 q98 (64 : Int32)) (fun M104 _ => ?_)
  refine X_putRF d107 fp_x5_40 (RefT.obj _) rfl rfl ?_
  refine X_bM fun M107 _ => ?_
  refine X_aloadn 0 d110 rfl ?_
  refine X_new d111 nc_x5_9 ?_
  refine X_bWr fun q111 _ => ?_
  refine X_bM fun M111 _ => ?_
  refine X_dupr d114 ?_
  refine X_bipush k_b_64 d115 ?_
  refine X_cIv (as := [vi (64 : Int32)]) d117 ci_x5_13 ⟨by decide, by decide⟩ rfl (Nat.le_of_ble_eq_true rfl) (T3_init M111 q111 (64 : Int32)) (fun M117 _ => ?_)
  refine X_putRF d120 fp_x5_43 (RefT.obj _) rfl rfl ?_
  refine X_bM fun M120 _ => ?_
  refine X_aloadn 0 d123 rfl ?_
  refine X_new d124 nc_x5_9 ?_
  refine X_bWr fun q124 _ => ?_
  refine X_bM fun M124 _ => ?_
  refine X_dupr d127 ?_
  refine X_bipush k_b_64 d128 ?_
  refine X_cIv (as := [vi (64 : Int32)]) d130 ci_x5_13 ⟨by decide, by decide⟩ rfl (Nat.le_of_ble_eq_true rfl) (T3_init M124 q124 (64 : Int32)) (fun M130 _ => ?_)
  refine X_putRF d133 fp_x5_46 (RefT.obj _) rfl rfl ?_
  refine X_bM fun M133 _ => ?_
  refine X_aloadn 0 d136 rfl ?_
  refine X_new d137 nc_x5_49 ?_
  refine X_bWr fun q137 _ => ?_
  refine X_bM fun M137 _ => ?_
  refine X_dupr d140 ?_
  refine X_bipush k_b_64 d141 ?_
  refine X_cIv (as := [vi (64 : Int32)]) d143 ci_x5_51 ⟨by decide, by decide⟩ rfl (Nat.le_of_ble_eq_true rfl) (T4_init M137 q137 (64 : Int32)) (fun M143 _ => ?_)
  refine X_putRF d146 fp_x5_52 (RefT.obj _) rfl rfl ?_
  refine X_bM fun M146 _ => ?_
  refine X_aloadn 0 d149 rfl ?_
  refine X_new d150 nc_x5_49 ?_
  refine X_bWr fun q150 _ => ?_
  refine X_bM fun M150 _ => ?_
  refine X_dupr d153 ?_
  refine X_bipush k_b_64 d154 ?_
  refine X_cIv (as := [vi (64 : Int32)]) d156 ci_x5_51 ⟨by decide, by decide⟩ rfl (Nat.le_of_ble_eq_true rfl) (T4_init M150 q150 (64 : Int32)) (fun M156 _ => ?_)
  refine X_putRF d159 fp_x5_56 (RefT.obj _) rfl rfl ?_
  refine X_bM fun M159 _ => ?_
  refine X_aloadn 0 d162 rfl ?_
  refine X_bipush k_b_64 d163 ?_
  refine X_putI d165 fp_x5_59 ?_
  refine X_bM fun M165 _ => ?_
  refine X_aloadn 0 d168 rfl ?_
  refine X_iconst k_i_0 d169 ?_
  refine X_putI d170 fp_x5_63 ?_
  refine X_bM fun M170 _ => ?_
  refine X_aloadn 0 d173 rfl ?_
  refine X_iconst k_i_0 d174 ?_
  refine X_putI d175 fp_x5_66 ?_
  refine X_bM fun M175 _ => ?_
  refine X_aloadn 0 d178 rfl ?_
  refine X_iconst k_i_0 d179 ?_
  refine X_putI d180 fp_x5_69 ?_
  refine X_bM fun M180 _ => ?_
  refine X_aloadn 0 d183 rfl ?_
  refine X_iconst k_i_m1 d184 ?_
  refine X_putI d185 fp_x5_72 ?_
  refine X_bM fun M185 _ => ?_
  refine X_aloadn 0 d188 rfl ?_
  refine X_iconst k_i_0 d189 ?_
  refine X_putI d190 fp_x5_75 ?_
  refine X_bM fun M190 _ => ?_
  exact X_vreturn d193 rfl rfl

theorem dd5_mixOf_b11 : AllD (ib i5_mixOf) [(11, .iload_n 3, 1), (12, .aload_n 0, 1), (13, .getfield 66, 3), (16, .if_icmp .ge 21, 3), (19, .iload_n 2, 1), (20, .bipush 31, 2), (22, .imul, 1), (23, .aload_n 0, 1), (24, .iload_n 1, 1), (25, .iload_n 3, 1), (26, .invokevirtual 144, 3), (29, .iadd, 1), (30, .istore_n 2, 1), (31, .iinc 3 1, 3), (34, .goto (-23), 3), (37, .iload_n 2, 1), (38, .ireturn, 1)] := allD_of (by decide +kernel)
def f5_mixOf_b11_body (rc : MM → Nat → Int32 → Int32 → Int32 → Option (Int32 × MM)) (M : MM) (a0 : Nat) (a1 : Int32) (a2 : Int32) (a3 : Int32) : Option (Int32 × MM) :=
  aO M a0 5 <|
  if (mI M a0 14) ≤ a3 then
    some (a2, M)
  else
    aO M a0 5 <|
    cI (f5_kindBehind M a0 a1 a3) fun r26 M26 =>
    bW ((a2 * (31 : Int32)) + r26) fun v30 =>
    rc M26 a0 a1 v30 (a3 + (1 : Int32))
def f5_mixOf_b11 : MM → Nat → Int32 → Int32 → Int32 → Option (Int32 × MM) := LP5 (f5_mixOf_b11_body) FU
set_option maxRecDepth 4000 in
theorem T5_mixOf_b11 : ∀ (M : MM) (a0 : Nat) (a1 : Int32) (a2 : Int32) (a3 : Int32), X Li i5_mixOf 11 [(0, vr a0), (1, vi a1), (2, vi a2), (3, vi a3)] [] M (f5_mixOf_b11 M a0 a1 a2 a3) := by
  obtain ⟨d11, d12, d13, d16, d19, d20, d22, d23, d24, d25, d26, d29, d30, d31, d34, d37, d38, -⟩ := dd5_mixOf_b11
  refine LP5_i (P := fun M a0 a1 a2 a3 o => X Li i5_mixOf 11 [(0, vr a0), (1, vi a1), (2, vi a2), (3, vi a3)] [] M o) (fun _ _ _ _ _ => X_none) (fun rc ih M a0 a1 a2 a3 => ?_) FU
  unfold f5_mixOf_b11_body
  refine X_iloadn 3 d11 rfl ?_
  refine X_aloadn 0 d12 rfl ?_
  refine X_getI d13 fg_x5_66 ?_
  refine X_icmp_ge (t := 37) d16 rfl (fun h16 => ?_) (fun h16 => ?_)
  · refine X_iloadn 2 d37 rfl ?_
    exact X_ireturn d38 rfl rfl
  · refine X_iloadn 2 d19 rfl ?_
    refine X_bipush k_b_31 d20 ?_
    refine X_imul d22 ?_
    refine X_aloadn 0 d23 rfl ?_
    refine X_iloadn 1 d24 rfl ?_
    refine X_iloadn 3 d25 rfl ?_
    refine X_cVi (as := [vi a1, vi a3]) d26 cv_x5_144 ⟨by decide, by decide⟩ rfl (Nat.le_of_ble_eq_true rfl) (T5_kindBehind M a0 a1 a3) (fun r26 M26 _ => ?_)
    refine X_iadd d29 ?_
    refine X_bWi fun v30 _ => ?_
    refine X_istoren (lv' := [(2, vi v30), (0, vr a0), (1, vi a1), (3, vi a3)]) d30 (by decide) rfl ?_
    refine X_inc (lv' := [(3, vi (a3 + (1 : Int32))), (2, vi v30), (0, vr a0), (1, vi a1)]) 3 d31 k_i_1 rfl (by decide) rfl ?_
    refine X_goto (t := 11) d34 rfl ?_
    refine X_sub [2, 3, 1, 0] rfl ?_
    exact ih M26 a0 a1 v30 (a3 + (1 : Int32))

theorem dd5_mixOf : AllD (ib i5_mixOf) [(0, .aload_n 0, 1), (1, .getfield 34, 3), (4, .iload_n 1, 1), (5, .invokevirtual 95, 3), (8, .istore_n 2, 1), (9, .iconst 0, 1), (10, .istore_n 3, 1)] := allD_of (by decide +kernel)
def f5_mixOf (M : MM) (a0 : Nat) (a1 : Int32) : Option (Int32 × MM) :=
  aO M a0 5 <|
  aO M (mR M a0 5) 3 <|
  cI (f3_get M (mR M a0 5) a1) fun r5 M5 =>
  f5_mixOf_b11 M5 a0 a1 r5 (0 : Int32)
set_option maxRecDepth 4000 in
theorem T5_mixOf (M : MM) (a0 : Nat) (a1 : Int32) : ∀ q, f5_mixOf M a0 a1 = some q → Run i5_mixOf [vr a0, vi a1] M (Li q) := by
  obtain ⟨d0, d1, d4, d5, d8, d9, d10, -⟩ := dd5_mixOf
  refine Run_of_X (by decide) (Nat.le_of_ble_eq_true rfl) ?_
  show X Li i5_mixOf 0 [(0, vr a0), (1, vi a1)] [] M _
  unfold f5_mixOf
  refine X_aloadn 0 d0 rfl ?_
  refine X_getR d1 fg_x5_34 ?_
  refine X_iloadn 1 d4 rfl ?_
  refine X_cVi (as := [vi a1]) d5 cv_x5_95 ⟨by decide, by decide⟩ rfl (Nat.le_of_ble_eq_true rfl) (T3_get M (mR M a0 5) a1) (fun r5 M5 _ => ?_)
  refine X_istoren (lv' := [(2, vi r5), (0, vr a0), (1, vi a1)]) d8 (by decide) rfl ?_
  refine X_iconst k_i_0 d9 ?_
  refine X_istoren (lv' := [(3, vi (0 : Int32)), (2, vi r5), (0, vr a0), (1, vi a1)]) d10 (by decide) rfl ?_
  refine X_sub [2, 3, 1, 0] rfl ?_
  exact T5_mixOf_b11 M5 a0 a1 r5 (0 : Int32)

theorem dd5_numberFrom_b114 : AllD (ib i5_numberFrom) [(114, .iinc 3 1, 3), (117, .goto (-65), 3)] := allD_of (by decide +kernel)
def f5_numberFrom_b114 (K52 : MM → Nat → Int32 → Int32 → Option MM) (M : MM) (a0 : Nat) (a2 : Int32) (a3 : Int32) : Option MM :=
  K52 M a0 a2 (a3 + (1 : Int32))
set_option maxRecDepth 4000 in
theorem T5_numberFrom_b114 {K52 : MM → Nat → Int32 → Int32 → Option MM} (hK52 : ∀ (M : MM) (a0 : Nat) (a2 : Int32) (a3 : Int32), X Lv i5_numberFrom 52 [(0, vr a0), (2, vi a2), (3, vi a3)] [] M (K52 M a0 a2 a3)) : ∀ (M : MM) (a0 : Nat) (a2 : Int32) (a3 : Int32), X Lv i5_numberFrom 114 [(0, vr a0), (2, vi a2), (3, vi a3)] [] M (f5_numberFrom_b114 K52 M a0 a2 a3) := by
  obtain ⟨d114, d117, -⟩ := dd5_numberFrom_b114
  intro M a0 a2 a3
  unfold f5_numberFrom_b114
  refine X_inc (lv' := [(3, vi (a3 + (1 : Int32))), (0, vr a0), (2, vi a2)]) 2 d114 k_i_1 rfl (by decide) rfl ?_
  refine X_goto (t := 52) d117 rfl ?_
  refine X_sub [1, 2, 0] rfl ?_
  exact hK52 M a0 a2 (a3 + (1 : Int32))

theorem dd5_numberFrom_b52 : AllD (ib i5_numberFrom) [(52, .iload_n 3, 1), (53, .aload_n 0, 1), (54, .getfield 66, 3), (57, .if_icmp .ge 63, 3), (60, .aload_n 0, 1), (61, .getfield 31, 3), (64, .aload_n 0, 1), (65, .getfield 43, 3), (68, .iload_n 2, 1), (69, .invokevirtual 95, 3), (72, .bipush 6, 2), (74, .imul, 1), (75, .iload_n 3, 1), (76, .iadd, 1), (77, .invokevirtual 95, 3), (80, .istore 4, 2), (82, .aload_n 0, 1), (83, .getfield 40, 3), (86, .aload_n 0, 1), (87, .getfield 34, 3), (90, .iload 4, 2), (92, .invokevirtual 95, 3), (95, .invokevirtual 95, 3), (98, .iconst (-1), 1), (99, .if_icmp .ne 15, 3), (102, .aload_n 0, 1), (103, .iload 4, 2), (105, .iload_n 2, 1), (106, .bipush 6, 2), (108, .imul, 1), (109, .iload_n 3, 1), (110, .iadd, 1), (111, .invokevirtual 147, 3), (120, .iinc 2 1, 3), (123, .goto (-88), 3)] := allD_of (by decide +kernel)
def f5_numberFrom_b52_body (K35 : MM → Nat → Int32 → Option MM) (rc : MM → Nat → Int32 → Int32 → Option MM) (M : MM) (a0 : Nat) (a2 : Int32) (a3 : Int32) : Option MM :=
  aO M a0 5 <|
  if (mI M a0 14) ≤ a3 then
    K35 M a0 (a2 + (1 : Int32))
  else
    aO M a0 5 <|
    aO M a0 5 <|
    aO M (mR M a0 8) 3 <|
    cI (f3_get M (mR M a0 8) a2) fun r69 M69 =>
    aO M69 (mR M a0 4) 3 <|
    cI (f3_get M69 (mR M a0 4) ((r69 * (6 : Int32)) + a3)) fun r77 M77 =>
    aO M77 a0 5 <|
    aO M77 a0 5 <|
    aO M77 (mR M77 a0 5) 3 <|
    cI (f3_get M77 (mR M77 a0 5) r77) fun r92 M92 =>
    aO M92 (mR M77 a0 7) 3 <|
    cI (f3_get M92 (mR M77 a0 7) r92) fun r95 M95 =>
    if r95 = (-1 : Int32) then
      aO M95 a0 5 <|
      cV (f5_addNode M95 a0 r77 ((a2 * (6 : Int32)) + a3)) fun M111 =>
      (f5_numberFrom_b114 rc) M111 a0 a2 a3
    else
      (f5_numberFrom_b114 rc) M95 a0 a2 a3
def f5_numberFrom_b52 (K35 : MM → Nat → Int32 → Option MM) : MM → Nat → Int32 → Int32 → Option MM := LP4 (f5_numberFrom_b52_body K35) FU
set_option maxRecDepth 4000 in
theorem T5_numberFrom_b52 {K35 : MM → Nat → Int32 → Option MM} (hK35 : ∀ (M : MM) (a0 : Nat) (a2 : Int32), X Lv i5_numberFrom 35 [(0, vr a0), (2, vi a2)] [] M (K35 M a0 a2)) : ∀ (M : MM) (a0 : Nat) (a2 : Int32) (a3 : Int32), X Lv i5_numberFrom 52 [(0, vr a0), (2, vi a2), (3, vi a3)] [] M (f5_numberFrom_b52 K35 M a0 a2 a3) := by
  obtain ⟨d52, d53, d54, d57, d60, d61, d64, d65, d68, d69, d72, d74, d75, d76, d77, d80, d82, d83, d86, d87, d90, d92, d95, d98, d99, d102, d103, d105, d106, d108, d109, d110, d111, d120, d123, -⟩ := dd5_numberFrom_b52
  refine LP4_i (P := fun M a0 a2 a3 o => X Lv i5_numberFrom 52 [(0, vr a0), (2, vi a2), (3, vi a3)] [] M o) (fun _ _ _ _ => X_none) (fun rc ih M a0 a2 a3 => ?_) FU
  unfold f5_numberFrom_b52_body
  refine X_iloadn 2 d52 rfl ?_
  refine X_aloadn 0 d53 rfl ?_
  refine X_getI d54 fg_x5_66 ?_
  refine X_icmp_ge (t := 120) d57 rfl (fun h57 => ?_) (fun h57 => ?_)
  · refine X_inc (lv' := [(2, vi (a2 + (1 : Int32))), (0, vr a0), (3, vi a3)]) 1 d120 k_i_1 rfl (by decide) rfl ?_
    refine X_goto (t := 35) d123 rfl ?_
    refine X_sub [1, 0] rfl ?_
    exact hK35 M a0 (a2 + (1 : Int32))
  · refine X_aloadn 0 d60 rfl ?_
    refine X_getR d61 fg_x5_31 ?_
    refine X_aloadn 0 d64 rfl ?_
    refine X_getR d65 fg_x5_43 ?_
    refine X_iloadn 1 d68 rfl ?_
    refine X_cVi (as := [vi a2]) d69 cv_x5_95 ⟨by decide, by decide⟩ rfl (Nat.le_of_ble_eq_true rfl) (T3_get M (mR M a0 8) a2) (fun r69 M69 _ => ?_)
    refine X_bipush k_b_6 d72 ?_
    refine X_imul d74 ?_
    refine X_iloadn 2 d75 rfl ?_
    refine X_iadd d76 ?_
    refine X_cVi (as := [vi ((r69 * (6 : Int32)) + a3)]) d77 cv_x5_95 ⟨by decide, by decide⟩ rfl (Nat.le_of_ble_eq_true rfl) (T3_get M69 (mR M a0 4) ((r69 * (6 : Int32)) + a3)) (fun r77 M77 _ => ?_)
    refine X_istore (lv' := [(4, vi r77), (0, vr a0), (2, vi a2), (3, vi a3)]) d80 (by decide) rfl ?_
    refine X_aloadn 1 d82 rfl ?_
    refine X_getR d83 fg_x5_40 ?_
    refine X_aloadn 1 d86 rfl ?_
    refine X_getR d87 fg_x5_34 ?_
    refine X_iload 0 d90 rfl ?_
    refine X_cVi (as := [vi r77]) d92 cv_x5_95 ⟨by decide, by decide⟩ rfl (Nat.le_of_ble_eq_true rfl) (T3_get M77 (mR M77 a0 5) r77) (fun r92 M92 _ => ?_)
    refine X_cVi (as := [vi r92]) d95 cv_x5_95 ⟨by decide, by decide⟩ rfl (Nat.le_of_ble_eq_true rfl) (T3_get M92 (mR M77 a0 7) r92) (fun r95 M95 _ => ?_)
    refine X_iconst k_i_m1 d98 ?_
    refine X_icmp_ne (t := 114) d99 rfl (fun h99 => ?_) (fun h99 => ?_)
    · refine X_aloadn 1 d102 rfl ?_
      refine X_iload 0 d103 rfl ?_
      refine X_iloadn 2 d105 rfl ?_
      refine X_bipush k_b_6 d106 ?_
      refine X_imul d108 ?_
      refine X_iloadn 3 d109 rfl ?_
      refine X_iadd d110 ?_
      refine X_cVv (as := [vi r77, vi ((a2 * (6 : Int32)) + a3)]) d111 cv_x5_147 ⟨by decide, by decide⟩ rfl (Nat.le_of_ble_eq_true rfl) (T5_addNode M95 a0 r77 ((a2 * (6 : Int32)) + a3)) (fun M111 _ => ?_)
      refine X_sub [1, 2, 3] rfl ?_
      exact (T5_numberFrom_b114 ih) M111 a0 a2 a3
    · refine X_sub [1, 2, 3] rfl ?_
      exact (T5_numberFrom_b114 ih) M95 a0 a2 a3

theorem dd5_numberFrom_b35 : AllD (ib i5_numberFrom) [(35, .iload_n 2, 1), (36, .aload_n 0, 1), (37, .getfield 75, 3), (40, .if_icmp .ge 86, 3), (43, .iload_n 2, 1), (44, .sipush 2340, 3), (47, .if_icmp .ge 79, 3), (50, .iconst 0, 1), (51, .istore_n 3, 1), (126, .return_, 1)] := allD_of (by decide +kernel)
def f5_numberFrom_b35_body (rc : MM → Nat → Int32 → Option MM) (M : MM) (a0 : Nat) (a2 : Int32) : Option MM :=
  aO M a0 5 <|
  if (mI M a0 17) ≤ a2 then
    some M
  else
    if (2340 : Int32) ≤ a2 then
      some M
    else
      (f5_numberFrom_b52 rc) M a0 a2 (0 : Int32)
def f5_numberFrom_b35 : MM → Nat → Int32 → Option MM := LP3 (f5_numberFrom_b35_body) FU
set_option maxRecDepth 4000 in
theorem T5_numberFrom_b35 : ∀ (M : MM) (a0 : Nat) (a2 : Int32), X Lv i5_numberFrom 35 [(0, vr a0), (2, vi a2)] [] M (f5_numberFrom_b35 M a0 a2) := by
  obtain ⟨d35, d36, d37, d40, d43, d44, d47, d50, d51, d126, -⟩ := dd5_numberFrom_b35
  refine LP3_i (P := fun M a0 a2 o => X Lv i5_numberFrom 35 [(0, vr a0), (2, vi a2)] [] M o) (fun _ _ _ => X_none) (fun rc ih M a0 a2 => ?_) FU
  unfold f5_numberFrom_b35_body
  refine X_iloadn 1 d35 rfl ?_
  refine X_aloadn 0 d36 rfl ?_
  refine X_getI d37 fg_x5_75 ?_
  refine X_icmp_ge (t := 126) d40 rfl (fun h40 => ?_) (fun h40 => ?_)
  · exact X_vreturn d126 rfl rfl
  · refine X_iloadn 1 d43 rfl ?_
    refine X_sipush k_s_2340 d44 ?_
    refine X_icmp_ge (t := 126) d47 rfl (fun h47 => ?_) (fun h47 => ?_)
    · exact X_vreturn d126 rfl rfl
    · refine X_iconst k_i_0 d50 ?_
      refine X_istoren (lv' := [(3, vi (0 : Int32)), (0, vr a0), (2, vi a2)]) d51 (by decide) rfl ?_
      refine X_sub [1, 2, 0] rfl ?_
      exact (T5_numberFrom_b52 ih) M a0 a2 (0 : Int32)

theorem dd5_numberFrom : AllD (ib i5_numberFrom) [(0, .aload_n 0, 1), (1, .getfield 72, 3), (4, .iload_n 1, 1), (5, .if_icmp .ne 4, 3), (8, .return_, 1), (9, .aload_n 0, 1), (10, .iload_n 1, 1), (11, .putfield 72, 3), (14, .aload_n 0, 1), (15, .getfield 40, 3), (18, .iconst (-1), 1), (19, .invokevirtual 85, 3), (22, .aload_n 0, 1), (23, .iconst 0, 1), (24, .putfield 75, 3), (27, .aload_n 0, 1), (28, .iload_n 1, 1), (29, .iconst (-1), 1), (30, .invokevirtual 147, 3), (33, .iconst 0, 1), (34, .istore_n 2, 1)] := allD_of (by decide +kernel)
def f5_numberFrom (M : MM) (a0 : Nat) (a1 : Int32) : Option MM :=
  aO M a0 5 <|
  if (mI M a0 16) = a1 then
    some M
  else
    aO M a0 5 <|
    bM (sI M a0 16 a1) fun M11 =>
    aO M11 a0 5 <|
    aO M11 (mR M11 a0 7) 3 <|
    cV (f3_fill M11 (mR M11 a0 7) (-1 : Int32)) fun M19 =>
    aO M19 a0 5 <|
    bM (sI M19 a0 17 (0 : Int32)) fun M24 =>
    aO M24 a0 5 <|
    cV (f5_addNode M24 a0 a1 (-1 : Int32)) fun M30 =>
    f5_numberFrom_b35 M30 a0 (0 : Int32)
set_option maxRecDepth 4000 in
theorem T5_numberFrom (M : MM) (a0 : Nat) (a1 : Int32) : ∀ q, f5_numberFrom M a0 a1 = some q → Run i5_numberFrom [vr a0, vi a1] M (Lv q) := by
  obtain ⟨d0, d1, d4, d5, d8, d9, d10, d11, d14, d15, d18, d19, d22, d23, d24, d27, d28, d29, d30, d33, d34, -⟩ := dd5_numberFrom
  refine Run_of_X (by decide) (Nat.le_of_ble_eq_true rfl) ?_
  show X Lv i5_numberFrom 0 [(0, vr a0), (1, vi a1)] [] M _
  unfold f5_numberFrom
  refine X_aloadn 0 d0 rfl ?_
  refine X_getI d1 fg_x5_72 ?_
  refine X_iloadn 1 d4 rfl ?_
  refine X_icmp_ne (t := 9) d5 rfl (fun h5 => ?_) (fun h5 => ?_)
  · exact X_vreturn d8 rfl rfl
  · refine X_aloadn 0 d9 rfl ?_
    refine X_iloadn 1 d10 rfl ?_
    refine X_putI d11 fp_x5_72 ?_
    refine X_bM fun M11 _ => ?_
    refine X_aloadn 0 d14 rfl ?_
    refine X_getR d15 fg_x5_40 ?_
    refine X_iconst k_i_m1 d18 ?_
    refine X_cVv (as := [vi (-1 : Int32)]) d19 cv_x5_85 ⟨by decide, by decide⟩ rfl (Nat.le_of_ble_eq_true rfl) (T3_fill M11 (mR M11 a0 7) (-1 : Int32)) (fun M19 _ => ?_)
    refine X_aloadn 0 d22 rfl ?_
    refine X_iconst k_i_0 d23 ?_
    refine X_putI d24 fp_x5_75 ?_
    refine X_bM fun M24 _ => ?_
    refine X_aloadn 0 d27 rfl ?_
    refine X_iloadn 1 d28 rfl ?_
    refine X_iconst k_i_m1 d29 ?_
    refine X_cVv (as := [vi a1, vi (-1 : Int32)]) d30 cv_x5_147 ⟨by decide, by decide⟩ rfl (Nat.le_of_ble_eq_true rfl) (T5_addNode M24 a0 a1 (-1 : Int32)) (fun M30 _ => ?_)
    refine X_iconst k_i_0 d33 ?_
    refine X_istoren (lv' := [(2, vi (0 : Int32)), (0, vr a0), (1, vi a1)]) d34 (by decide) rfl ?_
    refine X_sub [1, 0] rfl ?_
    exact T5_numberFrom_b35 M30 a0 (0 : Int32)

theorem dd5_partKinds_b107 : AllD (ib i5_partKinds) [(107, .iinc 2 1, 3), (110, .goto (-98), 3)] := allD_of (by decide +kernel)
def f5_partKinds_b107 (K12 : MM → Nat → Int32 → Int32 → Option (Int32 × MM)) (M : MM) (a0 : Nat) (a1 : Int32) (a2 : Int32) : Option (Int32 × MM) :=
  K12 M a0 a1 (a2 + (1 : Int32))
set_option maxRecDepth 4000 in
theorem T5_partKinds_b107 {K12 : MM → Nat → Int32 → Int32 → Option (Int32 × MM)} (hK12 : ∀ (M : MM) (a0 : Nat) (a1 : Int32) (a2 : Int32), X Li i5_partKinds 12 [(0, vr a0), (1, vi a1), (2, vi a2)] [] M (K12 M a0 a1 a2)) : ∀ (M : MM) (a0 : Nat) (a1 : Int32) (a2 : Int32), X Li i5_partKinds 107 [(0, vr a0), (1, vi a1), (2, vi a2)] [] M (f5_partKinds_b107 K12 M a0 a1 a2) := by
  obtain ⟨d107, d110, -⟩ := dd5_partKinds_b107
  intro M a0 a1 a2
  unfold f5_partKinds_b107
  refine X_inc (lv' := [(2, vi (a2 + (1 : Int32))), (0, vr a0), (1, vi a1)]) 2 d107 k_i_1 rfl (by decide) rfl ?_
  refine X_goto (t := 12) d110 rfl ?_
  refine X_sub [1, 2, 0] rfl ?_
  exact hK12 M a0 a1 (a2 + (1 : Int32))

theorem dd5_partKinds_b12 : AllD (ib i5_partKinds) [(12, .iload_n 2, 1), (13, .aload_n 0, 1), (14, .getfield 69, 3), (17, .if_icmp .ge 96, 3), (20, .aload_n 0, 1), (21, .iload_n 2, 1), (22, .invokevirtual 134, 3), (25, .invokestatic 116, 3), (28, .istore_n 3, 1), (29, .aload_n 0, 1), (30, .iload_n 2, 1), (31, .aload_n 0, 1), (32, .getfield 22, 3), (35, .iload_n 3, 1), (36, .invokevirtual 95, 3), (39, .invokevirtual 137, 3), (42, .istore 4, 2), (44, .iload 4, 2), (46, .iconst (-1), 1), (47, .if_icmp .ne 43, 3), (50, .aload_n 0, 1), (51, .getfield 37, 3), (54, .iload_n 2, 1), (55, .iload_n 1, 1), (56, .invokevirtual 102, 3), (59, .iinc 1 1, 3), (62, .aload_n 0, 1), (63, .getfield 28, 3), (66, .iload_n 2, 1), (67, .aload_n 0, 1), (68, .getfield 22, 3), (71, .iload_n 3, 1), (72, .invokevirtual 95, 3), (75, .invokevirtual 102, 3), (78, .aload_n 0, 1), (79, .getfield 22, 3), (82, .iload_n 3, 1), (83, .iload_n 2, 1), (84, .invokevirtual 102, 3), (87, .goto 20, 3), (90, .aload_n 0, 1), (91, .getfield 37, 3), (94, .iload_n 2, 1), (95, .aload_n 0, 1), (96, .getfield 37, 3), (99, .iload 4, 2), (101, .invokevirtual 95, 3), (104, .invokevirtual 102, 3), (113, .aload_n 0, 1), (114, .getfield 34, 3), (117, .astore_n 2, 1), (118, .aload_n 0, 1), (119, .aload_n 0, 1), (120, .getfield 37, 3), (123, .putfield 34, 3), (126, .aload_n 0, 1), (127, .aload_n 2, 1), (128, .putfield 37, 3), (131, .iload_n 1, 1), (132, .ireturn, 1)] := allD_of (by decide +kernel)
def f5_partKinds_b12_body (rc : MM → Nat → Int32 → Int32 → Option (Int32 × MM)) (M : MM) (a0 : Nat) (a1 : Int32) (a2 : Int32) : Option (Int32 × MM) :=
  aO M a0 5 <|
  if (mI M a0 15) ≤ a2 then
    aO M a0 5 <|
    bW (mR M a0 5) fun v117 =>
    aO M a0 5 <|
    aO M a0 5 <|
    bM (sR M a0 5 (mR M a0 6)) fun M123 =>
    aO M123 a0 5 <|
    bM (sR M123 a0 6 v117) fun M128 =>
    some (a1, M128)
  else
    aO M a0 5 <|
    cI (f5_mixOf M a0 a2) fun r22 M22 =>
    cI (f5_bucketOf M22 r22) fun r25 M25 =>
    aO M25 a0 5 <|
    aO M25 (mR M25 a0 1) 3 <|
    cI (f3_get M25 (mR M25 a0 1) r25) fun r36 M36 =>
    aO M36 a0 5 <|
    cI (f5_findAlike M36 a0 a2 r36) fun r39 M39 =>
    if r39 = (-1 : Int32) then
      aO M39 a0 5 <|
      aO M39 (mR M39 a0 6) 3 <|
      cV (f3_set M39 (mR M39 a0 6) a2 a1) fun M56 =>
      aO M56 a0 5 <|
      aO M56 a0 5 <|
      aO M56 (mR M56 a0 1) 3 <|
      cI (f3_get M56 (mR M56 a0 1) r25) fun r72 M72 =>
      aO M72 (mR M56 a0 3) 3 <|
      cV (f3_set M72 (mR M56 a0 3) a2 r72) fun M75 =>
      aO M75 a0 5 <|
      aO M75 (mR M75 a0 1) 3 <|
      cV (f3_set M75 (mR M75 a0 1) r25 a2) fun M84 =>
      (f5_partKinds_b107 rc) M84 a0 (a1 + (1 : Int32)) a2
    else
      aO M39 a0 5 <|
      aO M39 a0 5 <|
      aO M39 (mR M39 a0 6) 3 <|
      cI (f3_get M39 (mR M39 a0 6) r39) fun r101 M101 =>
      aO M101 (mR M39 a0 6) 3 <|
      cV (f3_set M101 (mR M39 a0 6) a2 r101) fun M104 =>
      (f5_partKinds_b107 rc) M104 a0 a1 a2
def f5_partKinds_b12 : MM → Nat → Int32 → Int32 → Option (Int32 × MM) := LP4 (f5_partKinds_b12_body) FU
set_option maxRecDepth 4000 in
theorem T5_partKinds_b12 : ∀ (M : MM) (a0 : Nat) (a1 : Int32) (a2 : Int32), X Li i5_partKinds 12 [(0, vr a0), (1, vi a1), (2, vi a2)] [] M (f5_partKinds_b12 M a0 a1 a2) := by
  obtain ⟨d12, d13, d14, d17, d20, d21, d22, d25, d28, d29, d30, d31, d32, d35, d36, d39, d42, d44, d46, d47, d50, d51, d54, d55, d56, d59, d62, d63, d66, d67, d68, d71, d72, d75, d78, d79, d82, d83, d84, d87, d90, d91, d94, d95, d96, d99, d101, d104, d113, d114, d117, d118, d119, d120, d123, d126, d127, d128, d131, d132, -⟩ := dd5_partKinds_b12
  refine LP4_i (P := fun M a0 a1 a2 o => X Li i5_partKinds 12 [(0, vr a0), (1, vi a1), (2, vi a2)] [] M o) (fun _ _ _ _ => X_none) (fun rc ih M a0 a1 a2 => ?_) FU
  unfold f5_partKinds_b12_body
  refine X_iloadn 2 d12 rfl ?_
  refine X_aloadn 0 d13 rfl ?_
  refine X_getI d14 fg_x5_69 ?_
  refine X_icmp_ge (t := 113) d17 rfl (fun h17 => ?_) (fun h17 => ?_)
  · refine X_aloadn 0 d113 rfl ?_
    refine X_getR d114 fg_x5_34 ?_
    refine X_bWr fun v117 _ => ?_
    refine X_astoren (lv' := [(2, vr v117), (0, vr a0), (1, vi a1)]) d117 (by decide) rfl ?_
    refine X_aloadn 1 d118 rfl ?_
    refine X_aloadn 1 d119 rfl ?_
    refine X_getR d120 fg_x5_37 ?_
    refine X_putR d123 fp_x5_34 (RefT.obj _) ?_
    refine X_bM fun M123 _ => ?_
    refine X_aloadn 1 d126 rfl ?_
    refine X_aloadn 0 d127 rfl ?_
    refine X_putR d128 fp_x5_37 (RefT.obj _) ?_
    refine X_bM fun M128 _ => ?_
    refine X_iloadn 2 d131 rfl ?_
    exact X_ireturn d132 rfl rfl
  · refine X_aloadn 0 d20 rfl ?_
    refine X_iloadn 2 d21 rfl ?_
    refine X_cVi (as := [vi a2]) d22 cv_x5_134 ⟨by decide, by decide⟩ rfl (Nat.le_of_ble_eq_true rfl) (T5_mixOf M a0 a2) (fun r22 M22 _ => ?_)
    refine X_cSi (as := [vi r22]) d25 cs_x5_116 ⟨by decide, by decide⟩ rfl (Nat.le_of_ble_eq_true rfl) (T5_bucketOf M22 r22) (fun r25 M25 _ => ?_)
    refine X_istoren (lv' := [(3, vi r25), (0, vr a0), (1, vi a1), (2, vi a2)]) d28 (by decide) rfl ?_
    refine X_aloadn 1 d29 rfl ?_
    refine X_iloadn 3 d30 rfl ?_
    refine X_aloadn 1 d31 rfl ?_
    refine X_getR d32 fg_x5_22 ?_
    refine X_iloadn 0 d35 rfl ?_
    refine X_cVi (as := [vi r25]) d36 cv_x5_95 ⟨by decide, by decide⟩ rfl (Nat.le_of_ble_eq_true rfl) (T3_get M25 (mR M25 a0 1) r25) (fun r36 M36 _ => ?_)
    refine X_cVi (as := [vi a2, vi r36]) d39 cv_x5_137 ⟨by decide, by decide⟩ rfl (Nat.le_of_ble_eq_true rfl) (T5_findAlike M36 a0 a2 r36) (fun r39 M39 _ => ?_)
    refine X_istore (lv' := [(4, vi r39), (3, vi r25), (0, vr a0), (1, vi a1), (2, vi a2)]) d42 (by decide) rfl ?_
    refine X_iload 0 d44 rfl ?_
    refine X_iconst k_i_m1 d46 ?_
    refine X_icmp_ne (t := 90) d47 rfl (fun h47 => ?_) (fun h47 => ?_)
    · refine X_aloadn 2 d50 rfl ?_
      refine X_getR d51 fg_x5_37 ?_
      refine X_iloadn 4 d54 rfl ?_
      refine X_iloadn 3 d55 rfl ?_
      refine X_cVv (as := [vi a2, vi a1]) d56 cv_x5_102 ⟨by decide, by decide⟩ rfl (Nat.le_of_ble_eq_true rfl) (T3_set M39 (mR M39 a0 6) a2 a1) (fun M56 _ => ?_)
      refine X_inc (lv' := [(1, vi (a1 + (1 : Int32))), (4, vi r39), (3, vi r25), (0, vr a0), (2, vi a2)]) 3 d59 k_i_1 rfl (by decide) rfl ?_
      refine X_aloadn 3 d62 rfl ?_
      refine X_getR d63 fg_x5_28 ?_
      refine X_iloadn 4 d66 rfl ?_
      refine X_aloadn 3 d67 rfl ?_
      refine X_getR d68 fg_x5_22 ?_
      refine X_iloadn 2 d71 rfl ?_
      refine X_cVi (as := [vi r25]) d72 cv_x5_95 ⟨by decide, by decide⟩ rfl (Nat.le_of_ble_eq_true rfl) (T3_get M56 (mR M56 a0 1) r25) (fun r72 M72 _ => ?_)
      refine X_cVv (as := [vi a2, vi r72]) d75 cv_x5_102 ⟨by decide, by decide⟩ rfl (Nat.le_of_ble_eq_true rfl) (T3_set M72 (mR M56 a0 3) a2 r72) (fun M75 _ => ?_)
      refine X_aloadn 3 d78 rfl ?_
      refine X_getR d79 fg_x5_22 ?_
      refine X_iloadn 2 d82 rfl ?_
      refine X_iloadn 4 d83 rfl ?_
      refine X_cVv (as := [vi r25, vi a2]) d84 cv_x5_102 ⟨by decide, by decide⟩ rfl (Nat.le_of_ble_eq_true rfl) (T3_set M75 (mR M75 a0 1) r25 a2) (fun M84 _ => ?_)
      refine X_goto (t := 107) d87 rfl ?_
      refine X_sub [3, 0, 4] rfl ?_
      exact (T5_partKinds_b107 ih) M84 a0 (a1 + (1 : Int32)) a2
    · refine X_aloadn 2 d90 rfl ?_
      refine X_getR d91 fg_x5_37 ?_
      refine X_iloadn 4 d94 rfl ?_
      refine X_aloadn 2 d95 rfl ?_
      refine X_getR d96 fg_x5_37 ?_
      refine X_iload 0 d99 rfl ?_
      refine X_cVi (as := [vi r39]) d101 cv_x5_95 ⟨by decide, by decide⟩ rfl (Nat.le_of_ble_eq_true rfl) (T3_get M39 (mR M39 a0 6) r39) (fun r101 M101 _ => ?_)
      refine X_cVv (as := [vi a2, vi r101]) d104 cv_x5_102 ⟨by decide, by decide⟩ rfl (Nat.le_of_ble_eq_true rfl) (T3_set M101 (mR M39 a0 6) a2 r101) (fun M104 _ => ?_)
      refine X_sub [2, 3, 4] rfl ?_
      exact (T5_partKinds_b107 ih) M104 a0 a1 a2

theorem dd5_partKinds : AllD (ib i5_partKinds) [(0, .iconst 0, 1), (1, .istore_n 1, 1), (2, .aload_n 0, 1), (3, .getfield 22, 3), (6, .iconst (-1), 1), (7, .invokevirtual 85, 3), (10, .iconst 0, 1), (11, .istore_n 2, 1)] := allD_of (by decide +kernel)
def f5_partKinds (M : MM) (a0 : Nat) : Option (Int32 × MM) :=
  aO M a0 5 <|
  aO M (mR M a0 1) 3 <|
  cV (f3_fill M (mR M a0 1) (-1 : Int32)) fun M7 =>
  f5_partKinds_b12 M7 a0 (0 : Int32) (0 : Int32)
set_option maxRecDepth 4000 in
theorem T5_partKinds (M : MM) (a0 : Nat) : ∀ q, f5_partKinds M a0 = some q → Run i5_partKinds [vr a0] M (Li q) := by
  obtain ⟨d0, d1, d2, d3, d6, d7, d10, d11, -⟩ := dd5_partKinds
  refine Run_of_X (by decide) (Nat.le_of_ble_eq_true rfl) ?_
  show X Li i5_partKinds 0 [(0, vr a0)] [] M _
  unfold f5_partKinds
  refine X_iconst k_i_0 d0 ?_
  refine X_istoren (lv' := [(1, vi (0 : Int32)), (0, vr a0)]) d1 (by decide) rfl ?_
  refine X_aloadn 1 d2 rfl ?_
  refine X_getR d3 fg_x5_22 ?_
  refine X_iconst k_i_m1 d6 ?_
  refine X_cVv (as := [vi (-1 : Int32)]) d7 cv_x5_85 ⟨by decide, by decide⟩ rfl (Nat.le_of_ble_eq_true rfl) (T3_fill M (mR M a0 1) (-1 : Int32)) (fun M7 _ => ?_)
  refine X_iconst k_i_0 d10 ?_
  refine X_istoren (lv' := [(2, vi (0 : Int32)), (1, vi (0 : Int32)), (0, vr a0)]) d11 (by decide) rfl ?_
  refine X_sub [2, 1, 0] rfl ?_
  exact T5_partKinds_b12 M7 a0 (0 : Int32) (0 : Int32)

theorem dd5_signOnTheWay_b5 : AllD (ib i5_signOnTheWay) [(5, .iload 4, 2), (7, .iload_n 2, 1), (8, .if_icmp .ge 15, 3), (11, .aload_n 0, 1), (12, .iload_n 3, 1), (13, .invokevirtual 165, 3), (16, .istore_n 3, 1), (17, .iinc 4 1, 3), (20, .goto (-15), 3), (23, .iload_n 3, 1), (24, .ifCond .le 17, 3), (27, .aload_n 0, 1), (28, .getfield 46, 3), (31, .iload_n 3, 1), (32, .invokevirtual 95, 3), (35, .bipush 6, 2), (37, .irem, 1), (38, .goto 4, 3), (41, .iconst (-1), 1), (42, .ireturn, 1)] := allD_of (by decide +kernel)
def f5_signOnTheWay_b5_body (rc : MM → Nat → Int32 → Int32 → Int32 → Option (Int32 × MM)) (M : MM) (a0 : Nat) (a2 : Int32) (a3 : Int32) (a4 : Int32) : Option (Int32 × MM) :=
  if a2 ≤ a4 then
    if a3 ≤ 0 then
      some ((-1 : Int32), M)
    else
      aO M a0 5 <|
      aO M (mR M a0 9) 3 <|
      cI (f3_get M (mR M a0 9) a3) fun r32 M32 =>
      gd (¬ (6 : Int32) = 0) <|
      some (r32 - r32 / (6 : Int32) * (6 : Int32), M32)
  else
    aO M a0 5 <|
    cI (f5_parentOf M a0 a3) fun r13 M13 =>
    rc M13 a0 a2 r13 (a4 + (1 : Int32))
def f5_signOnTheWay_b5 : MM → Nat → Int32 → Int32 → Int32 → Option (Int32 × MM) := LP5 (f5_signOnTheWay_b5_body) FU
set_option maxRecDepth 4000 in
theorem T5_signOnTheWay_b5 : ∀ (M : MM) (a0 : Nat) (a2 : Int32) (a3 : Int32) (a4 : Int32), X Li i5_signOnTheWay 5 [(0, vr a0), (2, vi a2), (3, vi a3), (4, vi a4)] [] M (f5_signOnTheWay_b5 M a0 a2 a3 a4) := by
  obtain ⟨d5, d7, d8, d11, d12, d13, d16, d17, d20, d23, d24, d27, d28, d31, d32, d35, d37, d38, d41, d42, -⟩ := dd5_signOnTheWay_b5
  refine LP5_i (P := fun M a0 a2 a3 a4 o => X Li i5_signOnTheWay 5 [(0, vr a0), (2, vi a2), (3, vi a3), (4, vi a4)] [] M o) (fun _ _ _ _ _ => X_none) (fun rc ih M a0 a2 a3 a4 => ?_) FU
  unfold f5_signOnTheWay_b5_body
  refine X_iload 3 d5 rfl ?_
  refine X_iloadn 1 d7 rfl ?_
  refine X_icmp_ge (t := 23) d8 rfl (fun h8 => ?_) (fun h8 => ?_)
  · refine X_iloadn 2 d23 rfl ?_
    refine X_if_le (t := 41) d24 rfl (fun h24 => ?_) (fun h24 => ?_)
    · refine X_iconst k_i_m1 d41 ?_
      exact X_ireturn d42 rfl rfl
    · refine X_aloadn 0 d27 rfl ?_
      refine X_getR d28 fg_x5_46 ?_
      refine X_iloadn 2 d31 rfl ?_
      refine X_cVi (as := [vi a3]) d32 cv_x5_95 ⟨by decide, by decide⟩ rfl (Nat.le_of_ble_eq_true rfl) (T3_get M (mR M a0 9) a3) (fun r32 M32 _ => ?_)
      refine X_bipush k_b_6 d35 ?_
      refine X_irem d37 ?_
      refine X_goto (t := 42) d38 rfl ?_
      exact X_ireturn d42 rfl rfl
  · refine X_aloadn 0 d11 rfl ?_
    refine X_iloadn 2 d12 rfl ?_
    refine X_cVi (as := [vi a3]) d13 cv_x5_165 ⟨by decide, by decide⟩ rfl (Nat.le_of_ble_eq_true rfl) (T5_parentOf M a0 a3) (fun r13 M13 _ => ?_)
    refine X_istoren (lv' := [(3, vi r13), (0, vr a0), (2, vi a2), (4, vi a4)]) d16 (by decide) rfl ?_
    refine X_inc (lv' := [(4, vi (a4 + (1 : Int32))), (3, vi r13), (0, vr a0), (2, vi a2)]) 3 d17 k_i_1 rfl (by decide) rfl ?_
    refine X_goto (t := 5) d20 rfl ?_
    refine X_sub [2, 3, 1, 0] rfl ?_
    exact ih M13 a0 a2 r13 (a4 + (1 : Int32))

theorem dd5_signOnTheWay : AllD (ib i5_signOnTheWay) [(0, .iload_n 1, 1), (1, .istore_n 3, 1), (2, .iconst 0, 1), (3, .istore 4, 2)] := allD_of (by decide +kernel)
def f5_signOnTheWay (M : MM) (a0 : Nat) (a1 : Int32) (a2 : Int32) : Option (Int32 × MM) :=
  f5_signOnTheWay_b5 M a0 a2 a1 (0 : Int32)
set_option maxRecDepth 4000 in
theorem T5_signOnTheWay (M : MM) (a0 : Nat) (a1 : Int32) (a2 : Int32) : ∀ q, f5_signOnTheWay M a0 a1 a2 = some q → Run i5_signOnTheWay [vr a0, vi a1, vi a2] M (Li q) := by
  obtain ⟨d0, d1, d2, d3, -⟩ := dd5_signOnTheWay
  refine Run_of_X (by decide) (Nat.le_of_ble_eq_true rfl) ?_
  show X Li i5_signOnTheWay 0 [(0, vr a0), (1, vi a1), (2, vi a2)] [] M _
  unfold f5_signOnTheWay
  refine X_iloadn 1 d0 rfl ?_
  refine X_istoren (lv' := [(3, vi a1), (0, vr a0), (1, vi a1), (2, vi a2)]) d1 (by decide) rfl ?_
  refine X_iconst k_i_0 d2 ?_
  refine X_istore (lv' := [(4, vi (0 : Int32)), (3, vi a1), (0, vr a0), (1, vi a1), (2, vi a2)]) d3 (by decide) rfl ?_
  refine X_sub [2, 4, 1, 0] rfl ?_
  exact T5_signOnTheWay_b5 M a0 a2 a1 (0 : Int32)

theorem dd5_sortOut_b28 : AllD (ib i5_sortOut) [(28, .invokevirtual 102, 3), (31, .iinc 1 1, 3), (34, .goto (-32), 3)] := allD_of (by decide +kernel)
def f5_sortOut_b28 (K2 : MM → Nat → Int32 → Option MM) (M : MM) (a0 : Nat) (a1 : Int32) (s0 : Int32) (s1 : Int32) (s2 : Nat) : Option MM :=
  aO M s2 3 <|
  cV (f3_set M s2 s1 s0) fun M28 =>
  K2 M28 a0 (a1 + (1 : Int32))
set_option maxRecDepth 4000 in
theorem T5_sortOut_b28 {K2 : MM → Nat → Int32 → Option MM} (hK2 : ∀ (M : MM) (a0 : Nat) (a1 : Int32), X Lv i5_sortOut 2 [(0, vr a0), (1, vi a1)] [] M (K2 M a0 a1)) : ∀ (M : MM) (a0 : Nat) (a1 : Int32) (s0 : Int32) (s1 : Int32) (s2 : Nat), X Lv i5_sortOut 28 [(0, vr a0), (1, vi a1)] [vi s0, vi s1, vr s2] M (f5_sortOut_b28 K2 M a0 a1 s0 s1 s2) := by
  obtain ⟨d28, d31, d34, -⟩ := dd5_sortOut_b28
  intro M a0 a1 s0 s1 s2
  unfold f5_sortOut_b28
  refine X_cVv (as := [vi s1, vi s0]) d28 cv_x5_102 ⟨by decide, by decide⟩ rfl (Nat.le_of_ble_eq_true rfl) (T3_set M s2 s1 s0) (fun M28 _ => ?_)
  refine X_inc (lv' := [(1, vi (a1 + (1 : Int32))), (0, vr a0)]) 1 d31 k_i_1 rfl (by decide) rfl ?_
  refine X_goto (t := 2) d34 rfl ?_
  refine X_sub [1, 0] rfl ?_
  exact hK2 M28 a0 (a1 + (1 : Int32))

theorem dd5_sortOut_b46 : AllD (ib i5_sortOut) [(46, .iload_n 3, 1), (47, .aload_n 0, 1), (48, .getfield 69, 3), (51, .if_icmp .ge 21, 3), (54, .iload_n 2, 1), (55, .iload_n 1, 1), (56, .if_icmp .le 16, 3), (59, .iload_n 2, 1), (60, .istore_n 1, 1), (61, .aload_n 0, 1), (62, .invokevirtual 130, 3), (65, .istore_n 2, 1), (66, .iinc 3 1, 3), (69, .goto (-23), 3), (72, .return_, 1)] := allD_of (by decide +kernel)
def f5_sortOut_b46_body (rc : MM → Nat → Int32 → Int32 → Int32 → Option MM) (M : MM) (a0 : Nat) (a1 : Int32) (a2 : Int32) (a3 : Int32) : Option MM :=
  aO M a0 5 <|
  if (mI M a0 15) ≤ a3 then
    some M
  else
    if a2 ≤ a1 then
      some M
    else
      aO M a0 5 <|
      cI (f5_partKinds M a0) fun r62 M62 =>
      rc M62 a0 a2 r62 (a3 + (1 : Int32))
def f5_sortOut_b46 : MM → Nat → Int32 → Int32 → Int32 → Option MM := LP5 (f5_sortOut_b46_body) FU
set_option maxRecDepth 4000 in
theorem T5_sortOut_b46 : ∀ (M : MM) (a0 : Nat) (a1 : Int32) (a2 : Int32) (a3 : Int32), X Lv i5_sortOut 46 [(0, vr a0), (1, vi a1), (2, vi a2), (3, vi a3)] [] M (f5_sortOut_b46 M a0 a1 a2 a3) := by
  obtain ⟨d46, d47, d48, d51, d54, d55, d56, d59, d60, d61, d62, d65, d66, d69, d72, -⟩ := dd5_sortOut_b46
  refine LP5_i (P := fun M a0 a1 a2 a3 o => X Lv i5_sortOut 46 [(0, vr a0), (1, vi a1), (2, vi a2), (3, vi a3)] [] M o) (fun _ _ _ _ _ => X_none) (fun rc ih M a0 a1 a2 a3 => ?_) FU
  unfold f5_sortOut_b46_body
  refine X_iloadn 3 d46 rfl ?_
  refine X_aloadn 0 d47 rfl ?_
  refine X_getI d48 fg_x5_69 ?_
  refine X_icmp_ge (t := 72) d51 rfl (fun h51 => ?_) (fun h51 => ?_)
  · exact X_vreturn d72 rfl rfl
  · refine X_iloadn 2 d54 rfl ?_
    refine X_iloadn 1 d55 rfl ?_
    refine X_icmp_le (t := 72) d56 rfl (fun h56 => ?_) (fun h56 => ?_)
    · exact X_vreturn d72 rfl rfl
    · refine X_iloadn 2 d59 rfl ?_
      refine X_istoren (lv' := [(1, vi a2), (0, vr a0), (2, vi a2), (3, vi a3)]) d60 (by decide) rfl ?_
      refine X_aloadn 1 d61 rfl ?_
      refine X_cVi (as := []) d62 cv_x5_130 ⟨by decide, by decide⟩ rfl (Nat.le_of_ble_eq_true rfl) (T5_partKinds M a0) (fun r62 M62 _ => ?_)
      refine X_istoren (lv' := [(2, vi r62), (1, vi a2), (0, vr a0), (3, vi a3)]) d65 (by decide) rfl ?_
      refine X_inc (lv' := [(3, vi (a3 + (1 : Int32))), (2, vi r62), (1, vi a2), (0, vr a0)]) 3 d66 k_i_1 rfl (by decide) rfl ?_
      refine X_goto (t := 46) d69 rfl ?_
      refine X_sub [3, 2, 1, 0] rfl ?_
      exact ih M62 a0 a2 r62 (a3 + (1 : Int32))

theorem dd5_sortOut_b2 : AllD (ib i5_sortOut) [(2, .iload_n 1, 1), (3, .aload_n 0, 1), (4, .getfield 69, 3), (7, .if_icmp .ge 30, 3), (10, .aload_n 0, 1), (11, .getfield 34, 3), (14, .iload_n 1, 1), (15, .aload_n 0, 1), (16, .iload_n 1, 1), (17, .invokevirtual 126, 3), (20, .ifCond .eq 7, 3), (23, .iconst 1, 1), (24, .goto 4, 3), (27, .iconst 0, 1), (37, .iconst 0, 1), (38, .istore_n 1, 1), (39, .aload_n 0, 1), (40, .invokevirtual 130, 3), (43, .istore_n 2, 1), (44, .iconst 0, 1), (45, .istore_n 3, 1)] := allD_of (by decide +kernel)
def f5_sortOut_b2_body (rc : MM → Nat → Int32 → Option MM) (M : MM) (a0 : Nat) (a1 : Int32) : Option MM :=
  aO M a0 5 <|
  if (mI M a0 15) ≤ a1 then
    aO M a0 5 <|
    cI (f5_partKinds M a0) fun r40 M40 =>
    f5_sortOut_b46 M40 a0 (0 : Int32) r40 (0 : Int32)
  else
    aO M a0 5 <|
    aO M a0 5 <|
    cI (f5_isGoodSet M a0 a1) fun r17 M17 =>
    if r17 = 0 then
      (f5_sortOut_b28 rc) M17 a0 a1 (0 : Int32) a1 (mR M a0 5)
    else
      (f5_sortOut_b28 rc) M17 a0 a1 (1 : Int32) a1 (mR M a0 5)
def f5_sortOut_b2 : MM → Nat → Int32 → Option MM := LP3 (f5_sortOut_b2_body) FU
set_option maxRecDepth 4000 in
theorem T5_sortOut_b2 : ∀ (M : MM) (a0 : Nat) (a1 : Int32), X Lv i5_sortOut 2 [(0, vr a0), (1, vi a1)] [] M (f5_sortOut_b2 M a0 a1) := by
  obtain ⟨d2, d3, d4, d7, d10, d11, d14, d15, d16, d17, d20, d23, d24, d27, d37, d38, d39, d40, d43, d44, d45, -⟩ := dd5_sortOut_b2
  refine LP3_i (P := fun M a0 a1 o => X Lv i5_sortOut 2 [(0, vr a0), (1, vi a1)] [] M o) (fun _ _ _ => X_none) (fun rc ih M a0 a1 => ?_) FU
  unfold f5_sortOut_b2_body
  refine X_iloadn 1 d2 rfl ?_
  refine X_aloadn 0 d3 rfl ?_
  refine X_getI d4 fg_x5_69 ?_
  refine X_icmp_ge (t := 37) d7 rfl (fun h7 => ?_) (fun h7 => ?_)
  · refine X_iconst k_i_0 d37 ?_
    refine X_istoren (lv' := [(1, vi (0 : Int32)), (0, vr a0)]) d38 (by decide) rfl ?_
    refine X_aloadn 1 d39 rfl ?_
    refine X_cVi (as := []) d40 cv_x5_130 ⟨by decide, by decide⟩ rfl (Nat.le_of_ble_eq_true rfl) (T5_partKinds M a0) (fun r40 M40 _ => ?_)
    refine X_istoren (lv' := [(2, vi r40), (1, vi (0 : Int32)), (0, vr a0)]) d43 (by decide) rfl ?_
    refine X_iconst k_i_0 d44 ?_
    refine X_istoren (lv' := [(3, vi (0 : Int32)), (2, vi r40), (1, vi (0 : Int32)), (0, vr a0)]) d45 (by decide) rfl ?_
    refine X_sub [3, 2, 1, 0] rfl ?_
    exact T5_sortOut_b46 M40 a0 (0 : Int32) r40 (0 : Int32)
  · refine X_aloadn 0 d10 rfl ?_
    refine X_getR d11 fg_x5_34 ?_
    refine X_iloadn 1 d14 rfl ?_
    refine X_aloadn 0 d15 rfl ?_
    refine X_iloadn 1 d16 rfl ?_
    refine X_cVi (as := [vi a1]) d17 cv_x5_126 ⟨by decide, by decide⟩ rfl (Nat.le_of_ble_eq_true rfl) (T5_isGoodSet M a0 a1) (fun r17 M17 _ => ?_)
    refine X_if_eq (t := 27) d20 rfl (fun h20 => ?_) (fun h20 => ?_)
    · refine X_iconst k_i_0 d27 ?_
      exact (T5_sortOut_b28 ih) M17 a0 a1 (0 : Int32) a1 (mR M a0 5)
    · refine X_iconst k_i_1 d23 ?_
      refine X_goto (t := 28) d24 rfl ?_
      exact (T5_sortOut_b28 ih) M17 a0 a1 (1 : Int32) a1 (mR M a0 5)

theorem dd5_sortOut : AllD (ib i5_sortOut) [(0, .iconst 0, 1), (1, .istore_n 1, 1)] := allD_of (by decide +kernel)
def f5_sortOut (M : MM) (a0 : Nat) : Option MM :=
  f5_sortOut_b2 M a0 (0 : Int32)
set_option maxRecDepth 4000 in
theorem T5_sortOut (M : MM) (a0 : Nat) : ∀ q, f5_sortOut M a0 = some q → Run i5_sortOut [vr a0] M (Lv q) := by
  obtain ⟨d0, d1, -⟩ := dd5_sortOut
  refine Run_of_X (by decide) (Nat.le_of_ble_eq_true rfl) ?_
  show X Lv i5_sortOut 0 [(0, vr a0)] [] M _
  unfold f5_sortOut
  refine X_iconst k_i_0 d0 ?_
  refine X_istoren (lv' := [(1, vi (0 : Int32)), (0, vr a0)]) d1 (by decide) rfl ?_
  refine X_sub [1, 0] rfl ?_
  exact T5_sortOut_b2 M a0 (0 : Int32)

theorem dd5_startAlike : AllD (ib i5_startAlike) [(0, .aload_n 0, 1), (1, .getfield 34, 3), (4, .iload_n 1, 1), (5, .invokevirtual 95, 3), (8, .aload_n 0, 1), (9, .getfield 34, 3), (12, .iload_n 2, 1), (13, .invokevirtual 95, 3), (16, .if_icmp .ne 7, 3), (19, .iconst 1, 1), (20, .goto 4, 3), (23, .iconst 0, 1), (24, .ireturn, 1)] := allD_of (by decide +kernel)
def f5_startAlike (M : MM) (a0 : Nat) (a1 : Int32) (a2 : Int32) : Option (Int32 × MM) :=
  aO M a0 5 <|
  aO M (mR M a0 5) 3 <|
  cI (f3_get M (mR M a0 5) a1) fun r5 M5 =>
  aO M5 a0 5 <|
  aO M5 (mR M5 a0 5) 3 <|
  cI (f3_get M5 (mR M5 a0 5) a2) fun r13 M13 =>
  if r5 = r13 then
    some ((1 : Int32), M13)
  else
    some ((0 : Int32), M13)
set_option maxRecDepth 4000 in
theorem T5_startAlike (M : MM) (a0 : Nat) (a1 : Int32) (a2 : Int32) : ∀ q, f5_startAlike M a0 a1 a2 = some q → Run i5_startAlike [vr a0, vi a1, vi a2] M (Li q) := by
  obtain ⟨d0, d1, d4, d5, d8, d9, d12, d13, d16, d19, d20, d23, d24, -⟩ := dd5_startAlike
  refine Run_of_X (by decide) (Nat.le_of_ble_eq_true rfl) ?_
  show X Li i5_startAlike 0 [(0, vr a0), (1, vi a1), (2, vi a2)] [] M _
  unfold f5_startAlike
  refine X_aloadn 0 d0 rfl ?_
  refine X_getR d1 fg_x5_34 ?_
  refine X_iloadn 1 d4 rfl ?_
  refine X_cVi (as := [vi a1]) d5 cv_x5_95 ⟨by decide, by decide⟩ rfl (Nat.le_of_ble_eq_true rfl) (T3_get M (mR M a0 5) a1) (fun r5 M5 _ => ?_)
  refine X_aloadn 0 d8 rfl ?_
  refine X_getR d9 fg_x5_34 ?_
  refine X_iloadn 2 d12 rfl ?_
  refine X_cVi (as := [vi a2]) d13 cv_x5_95 ⟨by decide, by decide⟩ rfl (Nat.le_of_ble_eq_true rfl) (T3_get M5 (mR M5 a0 5) a2) (fun r13 M13 _ => ?_)
  refine X_icmp_ne (t := 23) d16 rfl (fun h16 => ?_) (fun h16 => ?_)
  · refine X_iconst k_i_1 d19 ?_
    refine X_goto (t := 24) d20 rfl ?_
    exact X_zreturnc d24 rfl (by decide) rfl
  · refine X_iconst k_i_0 d23 ?_
    exact X_zreturnc d24 rfl (by decide) rfl

theorem dd6_become_b6 : AllD (ib i6_become) [(6, .iload_n 2, 1), (7, .aload_n 1, 1), (8, .getfield 15, 3), (11, .if_icmp .ge 18, 3), (14, .aload_n 0, 1), (15, .aload_n 1, 1), (16, .iload_n 2, 1), (17, .invokevirtual 33, 3), (20, .invokevirtual 37, 3), (23, .iinc 2 1, 3), (26, .goto (-20), 3), (29, .aload_n 0, 1), (30, .aload_n 1, 1), (31, .getfield 9, 3), (34, .putfield 9, 3), (37, .return_, 1)] := allD_of (by decide +kernel)
def f6_become_b6_body (rc : MM → Nat → Nat → Int32 → Option MM) (M : MM) (a0 : Nat) (a1 : Nat) (a2 : Int32) : Option MM :=
  aO M a1 6 <|
  if (mI M a1 3) ≤ a2 then
    aO M a1 6 <|
    aO M a0 6 <|
    bM (sI M a0 2 (mI M a1 2)) fun M34 =>
    some M34
  else
    aO M a1 6 <|
    cI (f6_signAt M a1 a2) fun r17 M17 =>
    aO M17 a0 6 <|
    cV (f6_push M17 a0 r17) fun M20 =>
    rc M20 a0 a1 (a2 + (1 : Int32))
def f6_become_b6 : MM → Nat → Nat → Int32 → Option MM := LP4 (f6_become_b6_body) FU
set_option maxRecDepth 4000 in
theorem T6_become_b6 : ∀ (M : MM) (a0 : Nat) (a1 : Nat) (a2 : Int32), X Lv i6_become 6 [(0, vr a0), (1, vr a1), (2, vi a2)] [] M (f6_become_b6 M a0 a1 a2) := by
  obtain ⟨d6, d7, d8, d11, d14, d15, d16, d17, d20, d23, d26, d29, d30, d31, d34, d37, -⟩ := dd6_become_b6
  refine LP4_i (P := fun M a0 a1 a2 o => X Lv i6_become 6 [(0, vr a0), (1, vr a1), (2, vi a2)] [] M o) (fun _ _ _ _ => X_none) (fun rc ih M a0 a1 a2 => ?_) FU
  unfold f6_become_b6_body
  refine X_iloadn 2 d6 rfl ?_
  refine X_aloadn 1 d7 rfl ?_
  refine X_getI d8 fg_x6_15 ?_
  refine X_icmp_ge (t := 29) d11 rfl (fun h11 => ?_) (fun h11 => ?_)
  · refine X_aloadn 0 d29 rfl ?_
    refine X_aloadn 1 d30 rfl ?_
    refine X_getI d31 fg_x6_9 ?_
    refine X_putI d34 fp_x6_9 ?_
    refine X_bM fun M34 _ => ?_
    exact X_vreturn d37 rfl rfl
  · refine X_aloadn 0 d14 rfl ?_
    refine X_aloadn 1 d15 rfl ?_
    refine X_iloadn 2 d16 rfl ?_
    refine X_cVi (as := [vi a2]) d17 cv_x6_33 ⟨by decide, by decide⟩ rfl (Nat.le_of_ble_eq_true rfl) (T6_signAt M a1 a2) (fun r17 M17 _ => ?_)
    refine X_cVv (as := [vi r17]) d20 cv_x6_37 ⟨by decide, by decide⟩ rfl (Nat.le_of_ble_eq_true rfl) (T6_push M17 a0 r17) (fun M20 _ => ?_)
    refine X_inc (lv' := [(2, vi (a2 + (1 : Int32))), (0, vr a0), (1, vr a1)]) 2 d23 k_i_1 rfl (by decide) rfl ?_
    refine X_goto (t := 6) d26 rfl ?_
    refine X_sub [1, 2, 0] rfl ?_
    exact ih M20 a0 a1 (a2 + (1 : Int32))

theorem dd6_become : AllD (ib i6_become) [(0, .aload_n 0, 1), (1, .invokevirtual 30, 3), (4, .iconst 0, 1), (5, .istore_n 2, 1)] := allD_of (by decide +kernel)
def f6_become (M : MM) (a0 : Nat) (a1 : Nat) : Option MM :=
  aO M a0 6 <|
  cV (f6_forget M a0) fun M1 =>
  f6_become_b6 M1 a0 a1 (0 : Int32)
set_option maxRecDepth 4000 in
theorem T6_become (M : MM) (a0 : Nat) (a1 : Nat) : ∀ q, f6_become M a0 a1 = some q → Run i6_become [vr a0, vr a1] M (Lv q) := by
  obtain ⟨d0, d1, d4, d5, -⟩ := dd6_become
  refine Run_of_X (by decide) (Nat.le_of_ble_eq_true rfl) ?_
  show X Lv i6_become 0 [(0, vr a0), (1, vr a1)] [] M _
  unfold f6_become
  refine X_aloadn 0 d0 rfl ?_
  refine X_cVv (as := []) d1 cv_x6_30 ⟨by decide, by decide⟩ rfl (Nat.le_of_ble_eq_true rfl) (T6_forget M a0) (fun M1 _ => ?_)
  refine X_iconst k_i_0 d4 ?_
  refine X_istoren (lv' := [(2, vi (0 : Int32)), (0, vr a0), (1, vr a1)]) d5 (by decide) rfl ?_
  refine X_sub [1, 2, 0] rfl ?_
  exact T6_become_b6 M1 a0 a1 (0 : Int32)

theorem dd6_fromTop : AllD (ib i6_fromTop) [(0, .aload_n 0, 1), (1, .getfield 26, 3), (4, .aload_n 0, 1), (5, .getfield 15, 3), (8, .iconst 1, 1), (9, .isub, 1), (10, .iload_n 1, 1), (11, .isub, 1), (12, .invokevirtual 40, 3), (15, .ireturn, 1)] := allD_of (by decide +kernel)
def f6_fromTop (M : MM) (a0 : Nat) (a1 : Int32) : Option (Int32 × MM) :=
  aO M a0 6 <|
  aO M a0 6 <|
  aO M (mR M a0 1) 3 <|
  cI (f3_get M (mR M a0 1) (((mI M a0 3) - (1 : Int32)) - a1)) fun r12 M12 =>
  some (r12, M12)
set_option maxRecDepth 4000 in
theorem T6_fromTop (M : MM) (a0 : Nat) (a1 : Int32) : ∀ q, f6_fromTop M a0 a1 = some q → Run i6_fromTop [vr a0, vi a1] M (Li q) := by
  obtain ⟨d0, d1, d4, d5, d8, d9, d10, d11, d12, d15, -⟩ := dd6_fromTop
  refine Run_of_X (by decide) (Nat.le_of_ble_eq_true rfl) ?_
  show X Li i6_fromTop 0 [(0, vr a0), (1, vi a1)] [] M _
  unfold f6_fromTop
  refine X_aloadn 0 d0 rfl ?_
  refine X_getR d1 fg_x6_26 ?_
  refine X_aloadn 0 d4 rfl ?_
  refine X_getI d5 fg_x6_15 ?_
  refine X_iconst k_i_1 d8 ?_
  refine X_isub d9 ?_
  refine X_iloadn 1 d10 rfl ?_
  refine X_isub d11 ?_
  refine X_cVi (as := [vi (((mI M a0 3) - (1 : Int32)) - a1)]) d12 cv_x6_40 ⟨by decide, by decide⟩ rfl (Nat.le_of_ble_eq_true rfl) (T3_get M (mR M a0 1) (((mI M a0 3) - (1 : Int32)) - a1)) (fun r12 M12 _ => ?_)
  exact X_ireturn d15 rfl rfl

theorem dd6_init : AllD (ib i6_init) [(0, .aload_n 0, 1), (1, .invokespecial 3, 3), (4, .aload_n 0, 1), (5, .iconst (-1), 1), (6, .putfield 9, 3), (9, .aload_n 0, 1), (10, .iconst 0, 1), (11, .putfield 15, 3), (14, .aload_n 0, 1), (15, .iload_n 1, 1), (16, .putfield 18, 3), (19, .aload_n 0, 1), (20, .new 21, 3), (23, .dup, 1), (24, .iload_n 1, 1), (25, .invokespecial 23, 3), (28, .putfield 26, 3), (31, .return_, 1)] := allD_of (by decide +kernel)
def f6_init (M : MM) (a0 : Nat) (a1 : Int32) : Option MM :=
  gd (a0 ≠ 0) <|
  aO M a0 6 <|
  bM (sI M a0 2 (-1 : Int32)) fun M6 =>
  aO M6 a0 6 <|
  bM (sI M6 a0 3 (0 : Int32)) fun M11 =>
  aO M11 a0 6 <|
  bM (sI M11 a0 0 a1) fun M16 =>
  bW (mz M16) fun q20 =>
  bM (nw M16 6 1) fun M20 =>
  gd (q20 ≠ 0) <|
  cV (f3_init M20 q20 a1) fun M25 =>
  aO M25 a0 6 <|
  bM (sR M25 a0 1 q20) fun M28 =>
  some M28
set_option maxRecDepth 4000 in
theorem T6_init (M : MM) (a0 : Nat) (a1 : Int32) : ∀ q, f6_init M a0 a1 = some q → Run i6_init [vr a0, vi a1] M (Lv q) := by
  obtain ⟨d0, d1, d4, d5, d6, d9, d10, d11, d14, d15, d16, d19, d20, d23, d24, d25, d28, d31, -⟩ := dd6_init
  refine Run_of_X (by decide) (Nat.le_of_ble_eq_true rfl) ?_
  show X Lv i6_init 0 [(0, vr a0), (1, vi a1)] [] M _
  unfold f6_init
  refine X_aloadn 0 d0 rfl ?_
  refine X_objInit d1 oi_x6_3 (by decide) (Nat.le_of_ble_eq_true rfl) ?_
  refine X_aloadn 0 d4 rfl ?_
  refine X_iconst k_i_m1 d5 ?_
  refine X_putI d6 fp_x6_9 ?_
  refine X_bM fun M6 _ => ?_
  refine X_aloadn 0 d9 rfl ?_
  refine X_iconst k_i_0 d10 ?_
  refine X_putI d11 fp_x6_15 ?_
  refine X_bM fun M11 _ => ?_
  refine X_aloadn 0 d14 rfl ?_
  refine X_iloadn 1 d15 rfl ?_
  refine X_putIF d16 fp_x6_18 rfl rfl ?_
  refine X_bM fun M16 _ => ?_
  refine X_aloadn 0 d19 rfl ?_
  refine X_new d20 nc_x6_21 ?_
  refine X_bWr fun q20 _ => ?_
  refine X_bM fun M20 _ => ?_
  refine X_dupr d23 ?_
  refine X_iloadn 1 d24 rfl ?_
  refine X_cIv (as := [vi a1]) d25 ci_x6_23 ⟨by decide, by decide⟩ rfl (Nat.le_of_ble_eq_true rfl) (T3_init M20 q20 a1) (fun M25 _ => ?_)
  refine X_putRF d28 fp_x6_26 (RefT.obj _) rfl rfl ?_
  refine X_bM fun M28 _ => ?_
  exact X_vreturn d31 rfl rfl

theorem dd6_isNone : AllD (ib i6_isNone) [(0, .aload_n 0, 1), (1, .getfield 9, 3), (4, .iconst (-1), 1), (5, .if_icmp .ne 7, 3), (8, .iconst 1, 1), (9, .goto 4, 3), (12, .iconst 0, 1), (13, .ireturn, 1)] := allD_of (by decide +kernel)
def f6_isNone (M : MM) (a0 : Nat) : Option (Int32 × MM) :=
  aO M a0 6 <|
  if (mI M a0 2) = (-1 : Int32) then
    some ((1 : Int32), M)
  else
    some ((0 : Int32), M)
set_option maxRecDepth 4000 in
theorem T6_isNone (M : MM) (a0 : Nat) : ∀ q, f6_isNone M a0 = some q → Run i6_isNone [vr a0] M (Li q) := by
  obtain ⟨d0, d1, d4, d5, d8, d9, d12, d13, -⟩ := dd6_isNone
  refine Run_of_X (by decide) (Nat.le_of_ble_eq_true rfl) ?_
  show X Li i6_isNone 0 [(0, vr a0)] [] M _
  unfold f6_isNone
  refine X_aloadn 0 d0 rfl ?_
  refine X_getI d1 fg_x6_9 ?_
  refine X_iconst k_i_m1 d4 ?_
  refine X_icmp_ne (t := 12) d5 rfl (fun h5 => ?_) (fun h5 => ?_)
  · refine X_iconst k_i_1 d8 ?_
    refine X_goto (t := 13) d9 rfl ?_
    exact X_zreturnc d13 rfl (by decide) rfl
  · refine X_iconst k_i_0 d12 ?_
    exact X_zreturnc d13 rfl (by decide) rfl

theorem dd6_stepBy_b37 : AllD (ib i6_stepBy) [(37, .iload_n 3, 1), (38, .ifCond .lt 21, 3), (41, .aload_n 0, 1), (42, .aload_n 1, 1), (43, .iload_n 2, 1), (44, .iconst 4, 1), (45, .iload_n 3, 1), (46, .iadd, 1), (47, .invokevirtual 47, 3), (50, .invokevirtual 37, 3), (53, .iinc 3 (-1), 3), (56, .goto (-19), 3), (59, .return_, 1)] := allD_of (by decide +kernel)
def f6_stepBy_b37_body (rc : MM → Nat → Nat → Int32 → Int32 → Option MM) (M : MM) (a0 : Nat) (a1 : Nat) (a2 : Int32) (a3 : Int32) : Option MM :=
  if a3 < 0 then
    some M
  else
    aO M a1 7 <|
    cI (f7_ofRule M a1 a2 ((4 : Int32) + a3)) fun r47 M47 =>
    aO M47 a0 6 <|
    cV (f6_push M47 a0 r47) fun M50 =>
    rc M50 a0 a1 a2 (a3 + (-1 : Int32))
def f6_stepBy_b37 : MM → Nat → Nat → Int32 → Int32 → Option MM := LP5 (f6_stepBy_b37_body) FU
set_option maxRecDepth 4000 in
theorem T6_stepBy_b37 : ∀ (M : MM) (a0 : Nat) (a1 : Nat) (a2 : Int32) (a3 : Int32), X Lv i6_stepBy 37 [(0, vr a0), (1, vr a1), (2, vi a2), (3, vi a3)] [] M (f6_stepBy_b37 M a0 a1 a2 a3) := by
  obtain ⟨d37, d38, d41, d42, d43, d44, d45, d46, d47, d50, d53, d56, d59, -⟩ := dd6_stepBy_b37
  refine LP5_i (P := fun M a0 a1 a2 a3 o => X Lv i6_stepBy 37 [(0, vr a0), (1, vr a1), (2, vi a2), (3, vi a3)] [] M o) (fun _ _ _ _ _ => X_none) (fun rc ih M a0 a1 a2 a3 => ?_) FU
  unfold f6_stepBy_b37_body
  refine X_iloadn 3 d37 rfl ?_
  refine X_if_lt (t := 59) d38 rfl (fun h38 => ?_) (fun h38 => ?_)
  · exact X_vreturn d59 rfl rfl
  · refine X_aloadn 0 d41 rfl ?_
    refine X_aloadn 1 d42 rfl ?_
    refine X_iloadn 2 d43 rfl ?_
    refine X_iconst k_i_4 d44 ?_
    refine X_iloadn 3 d45 rfl ?_
    refine X_iadd d46 ?_
    refine X_cVi (as := [vi a2, vi ((4 : Int32) + a3)]) d47 cv_x6_47 ⟨by decide, by decide⟩ rfl (Nat.le_of_ble_eq_true rfl) (T7_ofRule M a1 a2 ((4 : Int32) + a3)) (fun r47 M47 _ => ?_)
    refine X_cVv (as := [vi r47]) d50 cv_x6_37 ⟨by decide, by decide⟩ rfl (Nat.le_of_ble_eq_true rfl) (T6_push M47 a0 r47) (fun M50 _ => ?_)
    refine X_inc (lv' := [(3, vi (a3 + (-1 : Int32))), (0, vr a0), (1, vr a1), (2, vi a2)]) 3 d53 k_i_m1 rfl (by decide) rfl ?_
    refine X_goto (t := 37) d56 rfl ?_
    refine X_sub [1, 2, 3, 0] rfl ?_
    exact ih M50 a0 a1 a2 (a3 + (-1 : Int32))

theorem dd6_stepBy : AllD (ib i6_stepBy) [(0, .aload_n 0, 1), (1, .getfield 15, 3), (4, .ifCond .ne 4, 3), (7, .return_, 1), (8, .aload_n 0, 1), (9, .dup, 1), (10, .getfield 15, 3), (13, .iconst 1, 1), (14, .isub, 1), (15, .putfield 15, 3), (18, .aload_n 0, 1), (19, .aload_n 1, 1), (20, .iload_n 2, 1), (21, .iconst 2, 1), (22, .invokevirtual 47, 3), (25, .putfield 9, 3), (28, .aload_n 1, 1), (29, .iload_n 2, 1), (30, .iconst 3, 1), (31, .invokevirtual 47, 3), (34, .iconst 1, 1), (35, .isub, 1), (36, .istore_n 3, 1)] := allD_of (by decide +kernel)
def f6_stepBy (M : MM) (a0 : Nat) (a1 : Nat) (a2 : Int32) : Option MM :=
  aO M a0 6 <|
  if (mI M a0 3) = 0 then
    some M
  else
    aO M a0 6 <|
    aO M a0 6 <|
    bM (sI M a0 3 ((mI M a0 3) - (1 : Int32))) fun M15 =>
    aO M15 a1 7 <|
    cI (f7_ofRule M15 a1 a2 (2 : Int32)) fun r22 M22 =>
    aO M22 a0 6 <|
    bM (sI M22 a0 2 r22) fun M25 =>
    aO M25 a1 7 <|
    cI (f7_ofRule M25 a1 a2 (3 : Int32)) fun r31 M31 =>
    bW (r31 - (1 : Int32)) fun v36 =>
    f6_stepBy_b37 M31 a0 a1 a2 v36
set_option maxRecDepth 4000 in
theorem T6_stepBy (M : MM) (a0 : Nat) (a1 : Nat) (a2 : Int32) : ∀ q, f6_stepBy M a0 a1 a2 = some q → Run i6_stepBy [vr a0, vr a1, vi a2] M (Lv q) := by
  obtain ⟨d0, d1, d4, d7, d8, d9, d10, d13, d14, d15, d18, d19, d20, d21, d22, d25, d28, d29, d30, d31, d34, d35, d36, -⟩ := dd6_stepBy
  refine Run_of_X (by decide) (Nat.le_of_ble_eq_true rfl) ?_
  show X Lv i6_stepBy 0 [(0, vr a0), (1, vr a1), (2, vi a2)] [] M _
  unfold f6_stepBy
  refine X_aloadn 0 d0 rfl ?_
  refine X_getI d1 fg_x6_15 ?_
  refine X_if_ne (t := 8) d4 rfl (fun h4 => ?_) (fun h4 => ?_)
  · exact X_vreturn d7 rfl rfl
  · refine X_aloadn 0 d8 rfl ?_
    refine X_dupr d9 ?_
    refine X_getI d10 fg_x6_15 ?_
    refine X_iconst k_i_1 d13 ?_
    refine X_isub d14 ?_
    refine X_putI d15 fp_x6_15 ?_
    refine X_bM fun M15 _ => ?_
    refine X_aloadn 0 d18 rfl ?_
    refine X_aloadn 1 d19 rfl ?_
    refine X_iloadn 2 d20 rfl ?_
    refine X_iconst k_i_2 d21 ?_
    refine X_cVi (as := [vi a2, vi (2 : Int32)]) d22 cv_x6_47 ⟨by decide, by decide⟩ rfl (Nat.le_of_ble_eq_true rfl) (T7_ofRule M15 a1 a2 (2 : Int32)) (fun r22 M22 _ => ?_)
    refine X_putI d25 fp_x6_9 ?_
    refine X_bM fun M25 _ => ?_
    refine X_aloadn 1 d28 rfl ?_
    refine X_iloadn 2 d29 rfl ?_
    refine X_iconst k_i_3 d30 ?_
    refine X_cVi (as := [vi a2, vi (3 : Int32)]) d31 cv_x6_47 ⟨by decide, by decide⟩ rfl (Nat.le_of_ble_eq_true rfl) (T7_ofRule M25 a1 a2 (3 : Int32)) (fun r31 M31 _ => ?_)
    refine X_iconst k_i_1 d34 ?_
    refine X_isub d35 ?_
    refine X_bWi fun v36 _ => ?_
    refine X_istoren (lv' := [(3, vi v36), (0, vr a0), (1, vr a1), (2, vi a2)]) d36 (by decide) rfl ?_
    refine X_sub [1, 2, 3, 0] rfl ?_
    exact T6_stepBy_b37 M31 a0 a1 a2 v36

theorem dd6_turnOver_b2 : AllD (ib i6_turnOver) [(2, .iload_n 1, 1), (3, .aload_n 0, 1), (4, .getfield 15, 3), (7, .iconst 2, 1), (8, .idiv, 1), (9, .if_icmp .ge 52, 3), (12, .aload_n 0, 1), (13, .getfield 15, 3), (16, .iconst 1, 1), (17, .isub, 1), (18, .iload_n 1, 1), (19, .isub, 1), (20, .istore_n 2, 1), (21, .aload_n 0, 1), (22, .getfield 26, 3), (25, .iload_n 1, 1), (26, .invokevirtual 40, 3), (29, .istore_n 3, 1), (30, .aload_n 0, 1), (31, .getfield 26, 3), (34, .iload_n 1, 1), (35, .aload_n 0, 1), (36, .getfield 26, 3), (39, .iload_n 2, 1), (40, .invokevirtual 40, 3), (43, .invokevirtual 43, 3), (46, .aload_n 0, 1), (47, .getfield 26, 3), (50, .iload_n 2, 1), (51, .iload_n 3, 1), (52, .invokevirtual 43, 3), (55, .iinc 1 1, 3), (58, .goto (-56), 3), (61, .return_, 1)] := allD_of (by decide +kernel)
def f6_turnOver_b2_body (rc : MM → Nat → Int32 → Option MM) (M : MM) (a0 : Nat) (a1 : Int32) : Option MM :=
  aO M a0 6 <|
  gd (¬ (2 : Int32) = 0) <|
  if ((mI M a0 3) / (2 : Int32)) ≤ a1 then
    some M
  else
    aO M a0 6 <|
    bW (((mI M a0 3) - (1 : Int32)) - a1) fun v20 =>
    aO M a0 6 <|
    aO M (mR M a0 1) 3 <|
    cI (f3_get M (mR M a0 1) a1) fun r26 M26 =>
    aO M26 a0 6 <|
    aO M26 a0 6 <|
    aO M26 (mR M26 a0 1) 3 <|
    cI (f3_get M26 (mR M26 a0 1) v20) fun r40 M40 =>
    aO M40 (mR M26 a0 1) 3 <|
    cV (f3_set M40 (mR M26 a0 1) a1 r40) fun M43 =>
    aO M43 a0 6 <|
    aO M43 (mR M43 a0 1) 3 <|
    cV (f3_set M43 (mR M43 a0 1) v20 r26) fun M52 =>
    rc M52 a0 (a1 + (1 : Int32))
def f6_turnOver_b2 : MM → Nat → Int32 → Option MM := LP3 (f6_turnOver_b2_body) FU
set_option maxRecDepth 4000 in
theorem T6_turnOver_b2 : ∀ (M : MM) (a0 : Nat) (a1 : Int32), X Lv i6_turnOver 2 [(0, vr a0), (1, vi a1)] [] M (f6_turnOver_b2 M a0 a1) := by
  obtain ⟨d2, d3, d4, d7, d8, d9, d12, d13, d16, d17, d18, d19, d20, d21, d22, d25, d26, d29, d30, d31, d34, d35, d36, d39, d40, d43, d46, d47, d50, d51, d52, d55, d58, d61, -⟩ := dd6_turnOver_b2
  refine LP3_i (P := fun M a0 a1 o => X Lv i6_turnOver 2 [(0, vr a0), (1, vi a1)] [] M o) (fun _ _ _ => X_none) (fun rc ih M a0 a1 => ?_) FU
  unfold f6_turnOver_b2_body
  refine X_iloadn 1 d2 rfl ?_
  refine X_aloadn 0 d3 rfl ?_
  refine X_getI d4 fg_x6_15 ?_
  refine X_iconst k_i_2 d7 ?_
  refine X_idiv d8 ?_
  refine X_icmp_ge (t := 61) d9 rfl (fun h9 => ?_) (fun h9 => ?_)
  · exact X_vreturn d61 rfl rfl
  · refine X_aloadn 0 d12 rfl ?_
    refine X_getI d13 fg_x6_15 ?_
    refine X_iconst k_i_1 d16 ?_
    refine X_isub d17 ?_
    refine X_iloadn 1 d18 rfl ?_
    refine X_isub d19 ?_
    refine X_bWi fun v20 _ => ?_
    refine X_istoren (lv' := [(2, vi v20), (0, vr a0), (1, vi a1)]) d20 (by decide) rfl ?_
    refine X_aloadn 1 d21 rfl ?_
    refine X_getR d22 fg_x6_26 ?_
    refine X_iloadn 2 d25 rfl ?_
    refine X_cVi (as := [vi a1]) d26 cv_x6_40 ⟨by decide, by decide⟩ rfl (Nat.le_of_ble_eq_true rfl) (T3_get M (mR M a0 1) a1) (fun r26 M26 _ => ?_)
    refine X_istoren (lv' := [(3, vi r26), (2, vi v20), (0, vr a0), (1, vi a1)]) d29 (by decide) rfl ?_
    refine X_aloadn 2 d30 rfl ?_
    refine X_getR d31 fg_x6_26 ?_
    refine X_iloadn 3 d34 rfl ?_
    refine X_aloadn 2 d35 rfl ?_
    refine X_getR d36 fg_x6_26 ?_
    refine X_iloadn 1 d39 rfl ?_
    refine X_cVi (as := [vi v20]) d40 cv_x6_40 ⟨by decide, by decide⟩ rfl (Nat.le_of_ble_eq_true rfl) (T3_get M26 (mR M26 a0 1) v20) (fun r40 M40 _ => ?_)
    refine X_cVv (as := [vi a1, vi r40]) d43 cv_x6_43 ⟨by decide, by decide⟩ rfl (Nat.le_of_ble_eq_true rfl) (T3_set M40 (mR M26 a0 1) a1 r40) (fun M43 _ => ?_)
    refine X_aloadn 2 d46 rfl ?_
    refine X_getR d47 fg_x6_26 ?_
    refine X_iloadn 1 d50 rfl ?_
    refine X_iloadn 0 d51 rfl ?_
    refine X_cVv (as := [vi v20, vi r26]) d52 cv_x6_43 ⟨by decide, by decide⟩ rfl (Nat.le_of_ble_eq_true rfl) (T3_set M43 (mR M43 a0 1) v20 r26) (fun M52 _ => ?_)
    refine X_inc (lv' := [(1, vi (a1 + (1 : Int32))), (3, vi r26), (2, vi v20), (0, vr a0)]) 3 d55 k_i_1 rfl (by decide) rfl ?_
    refine X_goto (t := 2) d58 rfl ?_
    refine X_sub [3, 0] rfl ?_
    exact ih M52 a0 (a1 + (1 : Int32))

theorem dd6_turnOver : AllD (ib i6_turnOver) [(0, .iconst 0, 1), (1, .istore_n 1, 1)] := allD_of (by decide +kernel)
def f6_turnOver (M : MM) (a0 : Nat) : Option MM :=
  f6_turnOver_b2 M a0 (0 : Int32)
set_option maxRecDepth 4000 in
theorem T6_turnOver (M : MM) (a0 : Nat) : ∀ q, f6_turnOver M a0 = some q → Run i6_turnOver [vr a0] M (Lv q) := by
  obtain ⟨d0, d1, -⟩ := dd6_turnOver
  refine Run_of_X (by decide) (Nat.le_of_ble_eq_true rfl) ?_
  show X Lv i6_turnOver 0 [(0, vr a0)] [] M _
  unfold f6_turnOver
  refine X_iconst k_i_0 d0 ?_
  refine X_istoren (lv' := [(1, vi (0 : Int32)), (0, vr a0)]) d1 (by decide) rfl ?_
  refine X_sub [1, 0] rfl ?_
  exact T6_turnOver_b2 M a0 (0 : Int32)

theorem dd7_addSign : AllD (ib i7_addSign) [(0, .aload_n 0, 1), (1, .getfield 20, 3), (4, .aload_n 0, 1), (5, .getfield 37, 3), (8, .lload_n 1, 1), (9, .invokevirtual 46, 3), (12, .aload_n 0, 1), (13, .dup, 1), (14, .getfield 37, 3), (17, .iconst 1, 1), (18, .iadd, 1), (19, .putfield 37, 3), (22, .return_, 1)] := allD_of (by decide +kernel)
def f7_addSign (M : MM) (a0 : Nat) (a1 : Int64) : Option MM :=
  aO M a0 7 <|
  aO M a0 7 <|
  aO M (mR M a0 1) 4 <|
  cV (f4_set M (mR M a0 1) (mI M a0 5) a1) fun M9 =>
  aO M9 a0 7 <|
  aO M9 a0 7 <|
  bM (sI M9 a0 5 ((mI M9 a0 5) + (1 : Int32))) fun M19 =>
  some M19
set_option maxRecDepth 4000 in
theorem T7_addSign (M : MM) (a0 : Nat) (a1 : Int64) : ∀ q, f7_addSign M a0 a1 = some q → Run i7_addSign [vr a0, vl a1] M (Lv q) := by
  obtain ⟨d0, d1, d4, d5, d8, d9, d12, d13, d14, d17, d18, d19, d22, -⟩ := dd7_addSign
  refine Run_of_X (by decide) (Nat.le_of_ble_eq_true rfl) ?_
  show X Lv i7_addSign 0 [(0, vr a0), (1, vl a1)] [] M _
  unfold f7_addSign
  refine X_aloadn 0 d0 rfl ?_
  refine X_getR d1 fg_x7_20 ?_
  refine X_aloadn 0 d4 rfl ?_
  refine X_getI d5 fg_x7_37 ?_
  refine X_lloadn 1 d8 rfl ?_
  refine X_cVv (as := [vi (mI M a0 5), vl a1]) d9 cv_x7_46 ⟨by decide, by decide⟩ rfl (Nat.le_of_ble_eq_true rfl) (T4_set M (mR M a0 1) (mI M a0 5) a1) (fun M9 _ => ?_)
  refine X_aloadn 0 d12 rfl ?_
  refine X_dupr d13 ?_
  refine X_getI d14 fg_x7_37 ?_
  refine X_iconst k_i_1 d17 ?_
  refine X_iadd d18 ?_
  refine X_putI d19 fp_x7_37 ?_
  refine X_bM fun M19 _ => ?_
  exact X_vreturn d22 rfl rfl

theorem dd7_addState : AllD (ib i7_addState) [(0, .aload_n 0, 1), (1, .getfield 14, 3), (4, .aload_n 0, 1), (5, .getfield 33, 3), (8, .lload_n 1, 1), (9, .invokevirtual 46, 3), (12, .aload_n 0, 1), (13, .dup, 1), (14, .getfield 33, 3), (17, .iconst 1, 1), (18, .iadd, 1), (19, .putfield 33, 3), (22, .return_, 1)] := allD_of (by decide +kernel)
def f7_addState (M : MM) (a0 : Nat) (a1 : Int64) : Option MM :=
  aO M a0 7 <|
  aO M a0 7 <|
  aO M (mR M a0 0) 4 <|
  cV (f4_set M (mR M a0 0) (mI M a0 4) a1) fun M9 =>
  aO M9 a0 7 <|
  aO M9 a0 7 <|
  bM (sI M9 a0 4 ((mI M9 a0 4) + (1 : Int32))) fun M19 =>
  some M19
set_option maxRecDepth 4000 in
theorem T7_addState (M : MM) (a0 : Nat) (a1 : Int64) : ∀ q, f7_addState M a0 a1 = some q → Run i7_addState [vr a0, vl a1] M (Lv q) := by
  obtain ⟨d0, d1, d4, d5, d8, d9, d12, d13, d14, d17, d18, d19, d22, -⟩ := dd7_addState
  refine Run_of_X (by decide) (Nat.le_of_ble_eq_true rfl) ?_
  show X Lv i7_addState 0 [(0, vr a0), (1, vl a1)] [] M _
  unfold f7_addState
  refine X_aloadn 0 d0 rfl ?_
  refine X_getR d1 fg_x7_14 ?_
  refine X_aloadn 0 d4 rfl ?_
  refine X_getI d5 fg_x7_33 ?_
  refine X_lloadn 1 d8 rfl ?_
  refine X_cVv (as := [vi (mI M a0 4), vl a1]) d9 cv_x7_46 ⟨by decide, by decide⟩ rfl (Nat.le_of_ble_eq_true rfl) (T4_set M (mR M a0 0) (mI M a0 4) a1) (fun M9 _ => ?_)
  refine X_aloadn 0 d12 rfl ?_
  refine X_dupr d13 ?_
  refine X_getI d14 fg_x7_33 ?_
  refine X_iconst k_i_1 d17 ?_
  refine X_iadd d18 ?_
  refine X_putI d19 fp_x7_33 ?_
  refine X_bM fun M19 _ => ?_
  exact X_vreturn d22 rfl rfl

theorem dd7_isFor : AllD (ib i7_isFor) [(0, .aload_n 0, 1), (1, .iload_n 1, 1), (2, .iload 4, 2), (4, .invokevirtual 64, 3), (7, .ifCond .eq 27, 3), (10, .aload_n 0, 1), (11, .iload_n 1, 1), (12, .iconst 0, 1), (13, .invokevirtual 68, 3), (16, .iload_n 2, 1), (17, .if_icmp .ne 17, 3), (20, .aload_n 0, 1), (21, .iload_n 1, 1), (22, .iconst 1, 1), (23, .invokevirtual 68, 3), (26, .iload_n 3, 1), (27, .if_icmp .ne 7, 3), (30, .iconst 1, 1), (31, .goto 4, 3), (34, .iconst 0, 1), (35, .ireturn, 1)] := allD_of (by decide +kernel)
def f7_isFor (M : MM) (a0 : Nat) (a1 : Int32) (a2 : Int32) (a3 : Int32) (a4 : Int32) : Option (Int32 × MM) :=
  aO M a0 7 <|
  cI (f7_isIn M a0 a1 a4) fun r4 M4 =>
  if r4 = 0 then
    some ((0 : Int32), M4)
  else
    aO M4 a0 7 <|
    cI (f7_ofRule M4 a0 a1 (0 : Int32)) fun r13 M13 =>
    if r13 = a2 then
      aO M13 a0 7 <|
      cI (f7_ofRule M13 a0 a1 (1 : Int32)) fun r23 M23 =>
      if r23 = a3 then
        some ((1 : Int32), M23)
      else
        some ((0 : Int32), M23)
    else
      some ((0 : Int32), M13)
set_option maxRecDepth 4000 in
theorem T7_isFor (M : MM) (a0 : Nat) (a1 : Int32) (a2 : Int32) (a3 : Int32) (a4 : Int32) : ∀ q, f7_isFor M a0 a1 a2 a3 a4 = some q → Run i7_isFor [vr a0, vi a1, vi a2, vi a3, vi a4] M (Li q) := by
  obtain ⟨d0, d1, d2, d4, d7, d10, d11, d12, d13, d16, d17, d20, d21, d22, d23, d26, d27, d30, d31, d34, d35, -⟩ := dd7_isFor
  refine Run_of_X (by decide) (Nat.le_of_ble_eq_true rfl) ?_
  show X Li i7_isFor 0 [(0, vr a0), (1, vi a1), (2, vi a2), (3, vi a3), (4, vi a4)] [] M _
  unfold f7_isFor
  refine X_aloadn 0 d0 rfl ?_
  refine X_iloadn 1 d1 rfl ?_
  refine X_iload 4 d2 rfl ?_
  refine X_cVi (as := [vi a1, vi a4]) d4 cv_x7_64 ⟨by decide, by decide⟩ rfl (Nat.le_of_ble_eq_true rfl) (T7_isIn M a0 a1 a4) (fun r4 M4 _ => ?_)
  refine X_if_eq (t := 34) d7 rfl (fun h7 => ?_) (fun h7 => ?_)
  · refine X_iconst k_i_0 d34 ?_
    exact X_zreturnc d35 rfl (by decide) rfl
  · refine X_aloadn 0 d10 rfl ?_
    refine X_iloadn 1 d11 rfl ?_
    refine X_iconst k_i_0 d12 ?_
    refine X_cVi (as := [vi a1, vi (0 : Int32)]) d13 cv_x7_68 ⟨by decide, by decide⟩ rfl (Nat.le_of_ble_eq_true rfl) (T7_ofRule M4 a0 a1 (0 : Int32)) (fun r13 M13 _ => ?_)
    refine X_iloadn 2 d16 rfl ?_
    refine X_icmp_ne (t := 34) d17 rfl (fun h17 => ?_) (fun h17 => ?_)
    · refine X_aloadn 0 d20 rfl ?_
      refine X_iloadn 1 d21 rfl ?_
      refine X_iconst k_i_1 d22 ?_
      refine X_cVi (as := [vi a1, vi (1 : Int32)]) d23 cv_x7_68 ⟨by decide, by decide⟩ rfl (Nat.le_of_ble_eq_true rfl) (T7_ofRule M13 a0 a1 (1 : Int32)) (fun r23 M23 _ => ?_)
      refine X_iloadn 3 d26 rfl ?_
      refine X_icmp_ne (t := 34) d27 rfl (fun h27 => ?_) (fun h27 => ?_)
      · refine X_iconst k_i_1 d30 ?_
        refine X_goto (t := 35) d31 rfl ?_
        exact X_zreturnc d35 rfl (by decide) rfl
      · refine X_iconst k_i_0 d34 ?_
        exact X_zreturnc d35 rfl (by decide) rfl
    · refine X_iconst k_i_0 d34 ?_
      exact X_zreturnc d35 rfl (by decide) rfl

theorem dd7_applies : AllD (ib i7_applies) [(0, .aload_n 2, 1), (1, .getfield 76, 3), (4, .ifCond .le 25, 3), (7, .aload_n 0, 1), (8, .iload_n 1, 1), (9, .aload_n 2, 1), (10, .getfield 81, 3), (13, .aload_n 2, 1), (14, .iconst 0, 1), (15, .invokevirtual 84, 3), (18, .iload_n 3, 1), (19, .invokevirtual 72, 3), (22, .ifCond .eq 7, 3), (25, .iconst 1, 1), (26, .goto 4, 3), (29, .iconst 0, 1), (30, .ireturn, 1)] := allD_of (by decide +kernel)
def f7_applies (M : MM) (a0 : Nat) (a1 : Int32) (a2 : Nat) (a3 : Int32) : Option (Int32 × MM) :=
  aO M a2 6 <|
  if (mI M a2 3) ≤ 0 then
    some ((0 : Int32), M)
  else
    aO M a2 6 <|
    aO M a2 6 <|
    cI (f6_fromTop M a2 (0 : Int32)) fun r15 M15 =>
    aO M15 a0 7 <|
    cI (f7_isFor M15 a0 a1 (mI M a2 2) r15 a3) fun r19 M19 =>
    if r19 = 0 then
      some ((0 : Int32), M19)
    else
      some ((1 : Int32), M19)
set_option maxRecDepth 4000 in
theorem T7_applies (M : MM) (a0 : Nat) (a1 : Int32) (a2 : Nat) (a3 : Int32) : ∀ q, f7_applies M a0 a1 a2 a3 = some q → Run i7_applies [vr a0, vi a1, vr a2, vi a3] M (Li q) := by
  obtain ⟨d0, d1, d4, d7, d8, d9, d10, d13, d14, d15, d18, d19, d22, d25, d26, d29, d30, -⟩ := dd7_applies
  refine Run_of_X (by decide) (Nat.le_of_ble_eq_true rfl) ?_
  show X Li i7_applies 0 [(0, vr a0), (1, vi a1), (2, vr a2), (3, vi a3)] [] M _
  unfold f7_applies
  refine X_aloadn 2 d0 rfl ?_
  refine X_getI d1 fg_x7_76 ?_
  refine X_if_le (t := 29) d4 rfl (fun h4 => ?_) (fun h4 => ?_)
  · refine X_iconst k_i_0 d29 ?_
    exact X_zreturnc d30 rfl (by decide) rfl
  · refine X_aloadn 0 d7 rfl ?_
    refine X_iloadn 1 d8 rfl ?_
    refine X_aloadn 2 d9 rfl ?_
    refine X_getI d10 fg_x7_81 ?_
    refine X_aloadn 2 d13 rfl ?_
    refine X_iconst k_i_0 d14 ?_
    refine X_cVi (as := [vi (0 : Int32)]) d15 cv_x7_84 ⟨by decide, by decide⟩ rfl (Nat.le_of_ble_eq_true rfl) (T6_fromTop M a2 (0 : Int32)) (fun r15 M15 _ => ?_)
    refine X_iloadn 3 d18 rfl ?_
    refine X_cVi (as := [vi a1, vi (mI M a2 2), vi r15, vi a3]) d19 cv_x7_72 ⟨by decide, by decide⟩ rfl (Nat.le_of_ble_eq_true rfl) (T7_isFor M15 a0 a1 (mI M a2 2) r15 a3) (fun r19 M19 _ => ?_)
    refine X_if_eq (t := 29) d22 rfl (fun h22 => ?_) (fun h22 => ?_)
    · refine X_iconst k_i_0 d29 ?_
      exact X_zreturnc d30 rfl (by decide) rfl
    · refine X_iconst k_i_1 d25 ?_
      refine X_goto (t := 30) d26 rfl ?_
      exact X_zreturnc d30 rfl (by decide) rfl

theorem dd7_clear : AllD (ib i7_clear) [(0, .aload_n 0, 1), (1, .iconst 0, 1), (2, .putfield 33, 3), (5, .aload_n 0, 1), (6, .iconst 0, 1), (7, .putfield 37, 3), (10, .aload_n 0, 1), (11, .iconst 0, 1), (12, .putfield 40, 3), (15, .aload_n 0, 1), (16, .iconst 0, 1), (17, .putfield 43, 3), (20, .return_, 1)] := allD_of (by decide +kernel)
def f7_clear (M : MM) (a0 : Nat) : Option MM :=
  aO M a0 7 <|
  bM (sI M a0 4 (0 : Int32)) fun M2 =>
  aO M2 a0 7 <|
  bM (sI M2 a0 5 (0 : Int32)) fun M7 =>
  aO M7 a0 7 <|
  bM (sI M7 a0 6 (0 : Int32)) fun M12 =>
  aO M12 a0 7 <|
  bM (sI M12 a0 7 (0 : Int32)) fun M17 =>
  some M17
set_option maxRecDepth 4000 in
theorem T7_clear (M : MM) (a0 : Nat) : ∀ q, f7_clear M a0 = some q → Run i7_clear [vr a0] M (Lv q) := by
  obtain ⟨d0, d1, d2, d5, d6, d7, d10, d11, d12, d15, d16, d17, d20, -⟩ := dd7_clear
  refine Run_of_X (by decide) (Nat.le_of_ble_eq_true rfl) ?_
  show X Lv i7_clear 0 [(0, vr a0)] [] M _
  unfold f7_clear
  refine X_aloadn 0 d0 rfl ?_
  refine X_iconst k_i_0 d1 ?_
  refine X_putI d2 fp_x7_33 ?_
  refine X_bM fun M2 _ => ?_
  refine X_aloadn 0 d5 rfl ?_
  refine X_iconst k_i_0 d6 ?_
  refine X_putI d7 fp_x7_37 ?_
  refine X_bM fun M7 _ => ?_
  refine X_aloadn 0 d10 rfl ?_
  refine X_iconst k_i_0 d11 ?_
  refine X_putI d12 fp_x7_40 ?_
  refine X_bM fun M12 _ => ?_
  refine X_aloadn 0 d15 rfl ?_
  refine X_iconst k_i_0 d16 ?_
  refine X_putI d17 fp_x7_43 ?_
  refine X_bM fun M17 _ => ?_
  exact X_vreturn d20 rfl rfl

theorem dd7_hasRuleFor_b3 : AllD (ib i7_hasRuleFor) [(3, .iload 4, 2), (5, .aload_n 0, 1), (6, .getfield 40, 3), (9, .if_icmp .ge 23, 3), (12, .aload_n 0, 1), (13, .iload 4, 2), (15, .iload_n 1, 1), (16, .iload_n 2, 1), (17, .iload_n 3, 1), (18, .invokevirtual 72, 3), (21, .ifCond .eq 5, 3), (24, .iconst 1, 1), (25, .ireturn, 1), (26, .iinc 4 1, 3), (29, .goto (-26), 3), (32, .iconst 0, 1), (33, .ireturn, 1)] := allD_of (by decide +kernel)
def f7_hasRuleFor_b3_body (rc : MM → Nat → Int32 → Int32 → Int32 → Int32 → Option (Int32 × MM)) (M : MM) (a0 : Nat) (a1 : Int32) (a2 : Int32) (a3 : Int32) (a4 : Int32) : Option (Int32 × MM) :=
  aO M a0 7 <|
  if (mI M a0 6) ≤ a4 then
    some ((0 : Int32), M)
  else
    aO M a0 7 <|
    cI (f7_isFor M a0 a4 a1 a2 a3) fun r18 M18 =>
    if r18 = 0 then
      rc M18 a0 a1 a2 a3 (a4 + (1 : Int32))
    else
      some ((1 : Int32), M18)
def f7_hasRuleFor_b3 : MM → Nat → Int32 → Int32 → Int32 → Int32 → Option (Int32 × MM) := LP6 (f7_hasRuleFor_b3_body) FU
set_option maxRecDepth 4000 in
theorem T7_hasRuleFor_b3 : ∀ (M : MM) (a0 : Nat) (a1 : Int32) (a2 : Int32) (a3 : Int32) (a4 : Int32), X Li i7_hasRuleFor 3 [(0, vr a0), (1, vi a1), (2, vi a2), (3, vi a3), (4, vi a4)] [] M (f7_hasRuleFor_b3 M a0 a1 a2 a3 a4) := by
  obtain ⟨d3, d5, d6, d9, d12, d13, d15, d16, d17, d18, d21, d24, d25, d26, d29, d32, d33, -⟩ := dd7_hasRuleFor_b3
  refine LP6_i (P := fun M a0 a1 a2 a3 a4 o => X Li i7_hasRuleFor 3 [(0, vr a0), (1, vi a1), (2, vi a2), (3, vi a3), (4, vi a4)] [] M o) (fun _ _ _ _ _ _ => X_none) (fun rc ih M a0 a1 a2 a3 a4 => ?_) FU
  unfold f7_hasRuleFor_b3_body
  refine X_iload 4 d3 rfl ?_
  refine X_aloadn 0 d5 rfl ?_
  refine X_getI d6 fg_x7_40 ?_
  refine X_icmp_ge (t := 32) d9 rfl (fun h9 => ?_) (fun h9 => ?_)
  · refine X_iconst k_i_0 d32 ?_
    exact X_zreturnc d33 rfl (by decide) rfl
  · refine X_aloadn 0 d12 rfl ?_
    refine X_iload 4 d13 rfl ?_
    refine X_iloadn 1 d15 rfl ?_
    refine X_iloadn 2 d16 rfl ?_
    refine X_iloadn 3 d17 rfl ?_
    refine X_cVi (as := [vi a4, vi a1, vi a2, vi a3]) d18 cv_x7_72 ⟨by decide, by decide⟩ rfl (Nat.le_of_ble_eq_true rfl) (T7_isFor M a0 a4 a1 a2 a3) (fun r18 M18 _ => ?_)
    refine X_if_eq (t := 26) d21 rfl (fun h21 => ?_) (fun h21 => ?_)
    · refine X_inc (lv' := [(4, vi (a4 + (1 : Int32))), (0, vr a0), (1, vi a1), (2, vi a2), (3, vi a3)]) 4 d26 k_i_1 rfl (by decide) rfl ?_
      refine X_goto (t := 3) d29 rfl ?_
      refine X_sub [1, 2, 3, 4, 0] rfl ?_
      exact ih M18 a0 a1 a2 a3 (a4 + (1 : Int32))
    · refine X_iconst k_i_1 d24 ?_
      exact X_zreturnc d25 rfl (by decide) rfl

theorem dd7_hasRuleFor : AllD (ib i7_hasRuleFor) [(0, .iconst 0, 1), (1, .istore 4, 2)] := allD_of (by decide +kernel)
def f7_hasRuleFor (M : MM) (a0 : Nat) (a1 : Int32) (a2 : Int32) (a3 : Int32) : Option (Int32 × MM) :=
  f7_hasRuleFor_b3 M a0 a1 a2 a3 (0 : Int32)
set_option maxRecDepth 4000 in
theorem T7_hasRuleFor (M : MM) (a0 : Nat) (a1 : Int32) (a2 : Int32) (a3 : Int32) : ∀ q, f7_hasRuleFor M a0 a1 a2 a3 = some q → Run i7_hasRuleFor [vr a0, vi a1, vi a2, vi a3] M (Li q) := by
  obtain ⟨d0, d1, -⟩ := dd7_hasRuleFor
  refine Run_of_X (by decide) (Nat.le_of_ble_eq_true rfl) ?_
  show X Li i7_hasRuleFor 0 [(0, vr a0), (1, vi a1), (2, vi a2), (3, vi a3)] [] M _
  unfold f7_hasRuleFor
  refine X_iconst k_i_0 d0 ?_
  refine X_istore (lv' := [(4, vi (0 : Int32)), (0, vr a0), (1, vi a1), (2, vi a2), (3, vi a3)]) d1 (by decide) rfl ?_
  refine X_sub [1, 2, 3, 4, 0] rfl ?_
  exact T7_hasRuleFor_b3 M a0 a1 a2 a3 (0 : Int32)

theorem dd7_hasSign : AllD (ib i7_hasSign) [(0, .iload_n 1, 1), (1, .ifCond .lt 15, 3), (4, .iload_n 1, 1), (5, .aload_n 0, 1), (6, .getfield 37, 3), (9, .if_icmp .ge 7, 3), (12, .iconst 1, 1), (13, .goto 4, 3), (16, .iconst 0, 1), (17, .ireturn, 1)] := allD_of (by decide +kernel)
def f7_hasSign (M : MM) (a0 : Nat) (a1 : Int32) : Option (Int32 × MM) :=
  if a1 < 0 then
    some ((0 : Int32), M)
  else
    aO M a0 7 <|
    if (mI M a0 5) ≤ a1 then
      some ((0 : Int32), M)
    else
      some ((1 : Int32), M)
set_option maxRecDepth 4000 in
theorem T7_hasSign (M : MM) (a0 : Nat) (a1 : Int32) : ∀ q, f7_hasSign M a0 a1 = some q → Run i7_hasSign [vr a0, vi a1] M (Li q) := by
  obtain ⟨d0, d1, d4, d5, d6, d9, d12, d13, d16, d17, -⟩ := dd7_hasSign
  refine Run_of_X (by decide) (Nat.le_of_ble_eq_true rfl) ?_
  show X Li i7_hasSign 0 [(0, vr a0), (1, vi a1)] [] M _
  unfold f7_hasSign
  refine X_iloadn 1 d0 rfl ?_
  refine X_if_lt (t := 16) d1 rfl (fun h1 => ?_) (fun h1 => ?_)
  · refine X_iconst k_i_0 d16 ?_
    exact X_zreturnc d17 rfl (by decide) rfl
  · refine X_iloadn 1 d4 rfl ?_
    refine X_aloadn 0 d5 rfl ?_
    refine X_getI d6 fg_x7_37 ?_
    refine X_icmp_ge (t := 16) d9 rfl (fun h9 => ?_) (fun h9 => ?_)
    · refine X_iconst k_i_0 d16 ?_
      exact X_zreturnc d17 rfl (by decide) rfl
    · refine X_iconst k_i_1 d12 ?_
      refine X_goto (t := 17) d13 rfl ?_
      exact X_zreturnc d17 rfl (by decide) rfl

theorem dd7_hasState : AllD (ib i7_hasState) [(0, .iload_n 1, 1), (1, .ifCond .lt 15, 3), (4, .iload_n 1, 1), (5, .aload_n 0, 1), (6, .getfield 33, 3), (9, .if_icmp .ge 7, 3), (12, .iconst 1, 1), (13, .goto 4, 3), (16, .iconst 0, 1), (17, .ireturn, 1)] := allD_of (by decide +kernel)
def f7_hasState (M : MM) (a0 : Nat) (a1 : Int32) : Option (Int32 × MM) :=
  if a1 < 0 then
    some ((0 : Int32), M)
  else
    aO M a0 7 <|
    if (mI M a0 4) ≤ a1 then
      some ((0 : Int32), M)
    else
      some ((1 : Int32), M)
set_option maxRecDepth 4000 in
theorem T7_hasState (M : MM) (a0 : Nat) (a1 : Int32) : ∀ q, f7_hasState M a0 a1 = some q → Run i7_hasState [vr a0, vi a1] M (Li q) := by
  obtain ⟨d0, d1, d4, d5, d6, d9, d12, d13, d16, d17, -⟩ := dd7_hasState
  refine Run_of_X (by decide) (Nat.le_of_ble_eq_true rfl) ?_
  show X Li i7_hasState 0 [(0, vr a0), (1, vi a1)] [] M _
  unfold f7_hasState
  refine X_iloadn 1 d0 rfl ?_
  refine X_if_lt (t := 16) d1 rfl (fun h1 => ?_) (fun h1 => ?_)
  · refine X_iconst k_i_0 d16 ?_
    exact X_zreturnc d17 rfl (by decide) rfl
  · refine X_iloadn 1 d4 rfl ?_
    refine X_aloadn 0 d5 rfl ?_
    refine X_getI d6 fg_x7_33 ?_
    refine X_icmp_ge (t := 16) d9 rfl (fun h9 => ?_) (fun h9 => ?_)
    · refine X_iconst k_i_0 d16 ?_
      exact X_zreturnc d17 rfl (by decide) rfl
    · refine X_iconst k_i_1 d12 ?_
      refine X_goto (t := 17) d13 rfl ?_
      exact X_zreturnc d17 rfl (by decide) rfl

theorem dd7_init : AllD (ib i7_init) [(0, .aload_n 0, 1), (1, .invokespecial 3, 3), (4, .aload_n 0, 1), (5, .new 9, 3), (8, .dup, 1), (9, .iconst 5, 1), (10, .invokespecial 11, 3), (13, .putfield 14, 3), (16, .aload_n 0, 1), (17, .new 9, 3), (20, .dup, 1), (21, .bipush 6, 2), (23, .invokespecial 11, 3), (26, .putfield 20, 3), (29, .aload_n 0, 1), (30, .new 23, 3), (33, .dup, 1), (34, .bipush 98, 2), (36, .invokespecial 25, 3), (39, .putfield 26, 3), (42, .aload_n 0, 1), (43, .new 23, 3), (46, .dup, 1), (47, .bipush 24, 2), (49, .invokespecial 25, 3), (52, .putfield 30, 3), (55, .aload_n 0, 1), (56, .iconst 0, 1), (57, .putfield 33, 3), (60, .aload_n 0, 1), (61, .iconst 0, 1), (62, .putfield 37, 3), (65, .aload_n 0, 1), (66, .iconst 0, 1), (67, .putfield 40, 3), (70, .aload_n 0, 1), (71, .iconst 0, 1), (72, .putfield 43, 3), (75, .return_, 1)] := allD_of (by decide +kernel)
def f7_init (M : MM) (a0 : Nat) : Option MM :=
  gd (a0 ≠ 0) <|
  bW (mz M) fun q5 =>
  bM (nw M 7 1) fun M5 =>
  gd (q5 ≠ 0) <|
  cV (f4_init M5 q5 (5 : Int32)) fun M10 =>
  aO M10 a0 7 <|
  bM (sR M10 a0 0 q5) fun M13 =>
  bW (mz M13) fun q17 =>
  bM (nw M13 7 1) fun M17 =>
  gd (q17 ≠ 0) <|
  cV (f4_init M17 q17 (6 : Int32)) fun M23 =>
  aO M23 a0 7 <|
  bM (sR M23 a0 1 q17) fun M26 =>
  bW (mz M26) fun q30 =>
  bM (nw M26 6 1) fun M30 =>
  gd (q30 ≠ 0) <|
  cV (f3_init M30 q30 (98 : Int32)) fun M36 =>
  aO M36 a0 7 <|
  bM (sR M36 a0 2 q30) fun M39 =>
  bW (mz M39) fun q43 =>
  bM (nw M39 6 1) fun M43 =>
  gd (q43 ≠ 0) <|
  cV (f3_init M43 q43 (24 : Int32)) fun M49 =>
  aO M49 a0 7 <|
  bM (sR M49 a0 3 q43) fun M52 =>
  aO M52 a0 7 <|
  bM (sI M52 a0 4 (0 : Int32)) fun M57 =>
  aO M57 a0 7 <|
  bM (sI M57 a0 5 (0 : Int32)) fun M62 =>
  aO M62 a0 7 <|
  bM (sI M62 a0 6 (0 : Int32)) fun M67 =>
  aO M67 a0 7 <|
  bM (sI M67 a0 7 (0 : Int32)) fun M72 =>
  some M72
set_option maxRecDepth 4000 in
theorem T7_init (M : MM) (a0 : Nat) : ∀ q, f7_init M a0 = some q → Run i7_init [vr a0] M (Lv q) := by
  obtain ⟨d0, d1, d4, d5, d8, d9, d10, d13, d16, d17, d20, d21, d23, d26, d29, d30, d33, d34, d36, d39, d42, d43, d46, d47, d49, d52, d55, d56, d57, d60, d61, d62, d65, d66, d67, d70, d71, d72, d75, -⟩ := dd7_init
  refine Run_of_X (by decide) (Nat.le_of_ble_eq_true rfl) ?_
  show X Lv i7_init 0 [(0, vr a0)] [] M _
  unfold f7_init
  refine X_aloadn 0 d0 rfl ?_
  refine X_objInit d1 oi_x7_3 (by decide) (Nat.le_of_ble_eq_true rfl) ?_
  refine X_aloadn 0 d4 rfl ?_
  refine X_new d5 nc_x7_9 ?_
  refine X_bWr fun q5 _ => ?_
  refine X_bM fun M5 _ => ?_
  refine X_dupr d8 ?_
  refine X_iconst k_i_5 d9 ?_
  refine X_cIv (as := [vi (5 : Int32)]) d10 ci_x7_11 ⟨by decide, by decide⟩ rfl (Nat.le_of_ble_eq_true rfl) (T4_init M5 q5 (5 : Int32)) (fun M10 _ => ?_)
  refine X_putRF d13 fp_x7_14 (RefT.obj _) rfl rfl ?_
  refine X_bM fun M13 _ => ?_
  refine X_aloadn 0 d16 rfl ?_
  refine X_new d17 nc_x7_9 ?_
  refine X_bWr fun q17 _ => ?_
  refine X_bM fun M17 _ => ?_
  refine X_dupr d20 ?_
  refine X_bipush k_b_6 d21 ?_
  refine X_cIv (as := [vi (6 : Int32)]) d23 ci_x7_11 ⟨by decide, by decide⟩ rfl (Nat.le_of_ble_eq_true rfl) (T4_init M17 q17 (6 : Int32)) (fun M23 _ => ?_)
  refine X_putRF d26 fp_x7_20 (RefT.obj _) rfl rfl ?_
  refine X_bM fun M26 _ => ?_
  refine X_aloadn 0 d29 rfl ?_
  refine X_new d30 nc_x7_23 ?_
  refine X_bWr fun q30 _ => ?_
  refine X_bM fun M30 _ => ?_
  refine X_dupr d33 ?_
  refine X_bipush k_b_98 d34 ?_
  refine X_cIv (as := [vi (98 : Int32)]) d36 ci_x7_25 ⟨by decide, by decide⟩ rfl (Nat.le_of_ble_eq_true rfl) (T3_init M30 q30 (98 : Int32)) (fun M36 _ => ?_)
  refine X_putRF d39 fp_x7_26 (RefT.obj _) rfl rfl ?_
  refine X_bM fun M39 _ => ?_
  refine X_aloadn 0 d42 rfl ?_
  refine X_new d43 nc_x7_23 ?_
  refine X_bWr fun q43 _ => ?_
  refine X_bM fun M43 _ => ?_
  refine X_dupr d46 ?_
  refine X_bipush k_b_24 d47 ?_
  refine X_cIv (as := [vi (24 : Int32)]) d49 ci_x7_25 ⟨by decide, by decide⟩ rfl (Nat.le_of_ble_eq_true rfl) (T3_init M43 q43 (24 : Int32)) (fun M49 _ => ?_)
  refine X_putRF d52 fp_x7_30 (RefT.obj _) rfl rfl ?_
  refine X_bM fun M52 _ => ?_
  refine X_aloadn 0 d55 rfl ?_
  refine X_iconst k_i_0 d56 ?_
  refine X_putI d57 fp_x7_33 ?_
  refine X_bM fun M57 _ => ?_
  refine X_aloadn 0 d60 rfl ?_
  refine X_iconst k_i_0 d61 ?_
  refine X_putI d62 fp_x7_37 ?_
  refine X_bM fun M62 _ => ?_
  refine X_aloadn 0 d65 rfl ?_
  refine X_iconst k_i_0 d66 ?_
  refine X_putI d67 fp_x7_40 ?_
  refine X_bM fun M67 _ => ?_
  refine X_aloadn 0 d70 rfl ?_
  refine X_iconst k_i_0 d71 ?_
  refine X_putI d72 fp_x7_43 ?_
  refine X_bM fun M72 _ => ?_
  exact X_vreturn d75 rfl rfl

