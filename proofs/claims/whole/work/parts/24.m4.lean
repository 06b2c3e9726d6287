/-! printed by program: methods as functions, and that the bytecode does what they tell -/
theorem dd9_addFour_b52 : AllD (ib i9_addFour) [(52, .iinc 2 (-8), 3), (55, .goto (-52), 3)] := allD_of (by decide +kernel)
def f9_addFour_b52 (K3 : MM → Nat → Int32 → Int32 → Option MM) (M : MM) (a0 : Nat) (a1 : Int32) (a2 : Int32) : Option MM :=
  K3 M a0 a1 (a2 + (-8 : Int32))
set_option maxRecDepth 4000 in
theorem T9_addFour_b52 {K3 : MM → Nat → Int32 → Int32 → Option MM} (hK3 : ∀ (M : MM) (a0 : Nat) (a1 : Int32) (a2 : Int32), X Lv i9_addFour 3 [(0, vr a0), (1, vi a1), (2, vi a2)] [] M (K3 M a0 a1 a2)) : ∀ (M : MM) (a0 : Nat) (a1 : Int32) (a2 : Int32), X Lv i9_addFour 52 [(0, vr a0), (1, vi a1), (2, vi a2)] [] M (f9_addFour_b52 K3 M a0 a1 a2) := by
  obtain ⟨d52, d55, -⟩ := dd9_addFour_b52
  intro M a0 a1 a2
  unfold f9_addFour_b52
  refine X_inc (lv' := [(2, vi (a2 + (-8 : Int32))), (0, vr a0), (1, vi a1)]) 2 d52 k_i_m8 rfl (by decide) rfl ?_
  refine X_goto (t := 3) d55 rfl ?_
  refine X_sub [1, 2, 0] rfl ?_
  exact hK3 M a0 a1 (a2 + (-8 : Int32))

theorem dd9_addFour_b3 : AllD (ib i9_addFour) [(3, .iload_n 2, 1), (4, .ifCond .lt 54, 3), (7, .aload_n 0, 1), (8, .getfield 19, 3), (11, .ifCond .lt 41, 3), (14, .aload_n 0, 1), (15, .getfield 19, 3), (18, .aload_n 0, 1), (19, .getfield 9, 3), (22, .arraylength, 1), (23, .if_icmp .ge 29, 3), (26, .aload_n 0, 1), (27, .getfield 9, 3), (30, .aload_n 0, 1), (31, .getfield 19, 3), (34, .iload_n 1, 1), (35, .iload_n 2, 1), (36, .iushr, 1), (37, .sipush 255, 3), (40, .iand, 1), (41, .iastore, 1), (42, .aload_n 0, 1), (43, .dup, 1), (44, .getfield 19, 3), (47, .iconst 1, 1), (48, .iadd, 1), (49, .putfield 19, 3), (58, .return_, 1)] := allD_of (by decide +kernel)
def f9_addFour_b3_body (rc : MM → Nat → Int32 → Int32 → Option MM) (M : MM) (a0 : Nat) (a1 : Int32) (a2 : Int32) : Option MM :=
  if a2 < 0 then
    some M
  else
    aO M a0 9 <|
    if (mI M a0 2) < 0 then
      (f9_addFour_b52 rc) M a0 a1 a2
    else
      aO M a0 9 <|
      aO M a0 9 <|
      aL M (mR M a0 0) 0 <|
      if (nI (mK M (mR M a0 0)).2) ≤ (mI M a0 2) then
        (f9_addFour_b52 rc) M a0 a1 a2
      else
        aO M a0 9 <|
        aO M a0 9 <|
        aA M (mR M a0 0) 0 (mI M a0 2) <|
        bM (sI M (mR M a0 0) (mI M a0 2).toNatClampNeg ((ushr a1 a2) &&& (255 : Int32))) fun M41 =>
        aO M41 a0 9 <|
        aO M41 a0 9 <|
        bM (sI M41 a0 2 ((mI M41 a0 2) + (1 : Int32))) fun M49 =>
        (f9_addFour_b52 rc) M49 a0 a1 a2
def f9_addFour_b3 : MM → Nat → Int32 → Int32 → Option MM := LP4 (f9_addFour_b3_body) FU
set_option maxRecDepth 4000 in
theorem T9_addFour_b3 : ∀ (M : MM) (a0 : Nat) (a1 : Int32) (a2 : Int32), X Lv i9_addFour 3 [(0, vr a0), (1, vi a1), (2, vi a2)] [] M (f9_addFour_b3 M a0 a1 a2) := by
  obtain ⟨d3, d4, d7, d8, d11, d14, d15, d18, d19, d22, d23, d26, d27, d30, d31, d34, d35, d36, d37, d40, d41, d42, d43, d44, d47, d48, d49, d58, -⟩ := dd9_addFour_b3
  refine LP4_i (P := fun M a0 a1 a2 o => X Lv i9_addFour 3 [(0, vr a0), (1, vi a1), (2, vi a2)] [] M o) (fun _ _ _ _ => X_none) (fun rc ih M a0 a1 a2 => ?_) FU
  unfold f9_addFour_b3_body
  refine X_iloadn 2 d3 rfl ?_
  refine X_if_lt (t := 58) d4 rfl (fun h4 => ?_) (fun h4 => ?_)
  · exact X_vreturn d58 rfl rfl
  · refine X_aloadn 0 d7 rfl ?_
    refine X_getI d8 fg_x9_19 ?_
    refine X_if_lt (t := 52) d11 rfl (fun h11 => ?_) (fun h11 => ?_)
    · exact (T9_addFour_b52 ih) M a0 a1 a2
    · refine X_aloadn 0 d14 rfl ?_
      refine X_getI d15 fg_x9_19 ?_
      refine X_aloadn 0 d18 rfl ?_
      refine X_getR d19 fg_x9_9 ?_
      refine X_alen (by decide) d22 ?_
      refine X_icmp_ge (t := 52) d23 rfl (fun h23 => ?_) (fun h23 => ?_)
      · exact (T9_addFour_b52 ih) M a0 a1 a2
      · refine X_aloadn 0 d26 rfl ?_
        refine X_getR d27 fg_x9_9 ?_
        refine X_aloadn 0 d30 rfl ?_
        refine X_getI d31 fg_x9_19 ?_
        refine X_iloadn 1 d34 rfl ?_
        refine X_iloadn 2 d35 rfl ?_
        refine X_iushr d36 ?_
        refine X_sipush k_s_255 d37 ?_
        refine X_iand d40 ?_
        refine X_iastore d41 ?_
        refine X_bM fun M41 _ => ?_
        refine X_aloadn 0 d42 rfl ?_
        refine X_dupr d43 ?_
        refine X_getI d44 fg_x9_19 ?_
        refine X_iconst k_i_1 d47 ?_
        refine X_iadd d48 ?_
        refine X_putI d49 fp_x9_19 ?_
        refine X_bM fun M49 _ => ?_
        exact (T9_addFour_b52 ih) M49 a0 a1 a2

theorem dd9_addFour : AllD (ib i9_addFour) [(0, .bipush 24, 2), (2, .istore_n 2, 1)] := allD_of (by decide +kernel)
def f9_addFour (M : MM) (a0 : Nat) (a1 : Int32) : Option MM :=
  f9_addFour_b3 M a0 a1 (24 : Int32)
set_option maxRecDepth 4000 in
theorem T9_addFour (M : MM) (a0 : Nat) (a1 : Int32) : ∀ q, f9_addFour M a0 a1 = some q → Run i9_addFour [vr a0, vi a1] M (Lv q) := by
  obtain ⟨d0, d2, -⟩ := dd9_addFour
  refine Run_of_X (by decide) (Nat.le_of_ble_eq_true rfl) ?_
  show X Lv i9_addFour 0 [(0, vr a0), (1, vi a1)] [] M _
  unfold f9_addFour
  refine X_bipush k_b_24 d0 ?_
  refine X_istoren (lv' := [(2, vi (24 : Int32)), (0, vr a0), (1, vi a1)]) d2 (by decide) rfl ?_
  refine X_sub [1, 2, 0] rfl ?_
  exact T9_addFour_b3 M a0 a1 (24 : Int32)

theorem dd9_cut : AllD (ib i9_cut) [(0, .aload_n 0, 1), (1, .iload_n 1, 1), (2, .putfield 19, 3), (5, .return_, 1)] := allD_of (by decide +kernel)
def f9_cut (M : MM) (a0 : Nat) (a1 : Int32) : Option MM :=
  aO M a0 9 <|
  bM (sI M a0 2 a1) fun M2 =>
  some M2
set_option maxRecDepth 4000 in
theorem T9_cut (M : MM) (a0 : Nat) (a1 : Int32) : ∀ q, f9_cut M a0 a1 = some q → Run i9_cut [vr a0, vi a1] M (Lv q) := by
  obtain ⟨d0, d1, d2, d5, -⟩ := dd9_cut
  refine Run_of_X (by decide) (Nat.le_of_ble_eq_true rfl) ?_
  show X Lv i9_cut 0 [(0, vr a0), (1, vi a1)] [] M _
  unfold f9_cut
  refine X_aloadn 0 d0 rfl ?_
  refine X_iloadn 1 d1 rfl ?_
  refine X_putI d2 fp_x9_19 ?_
  refine X_bM fun M2 _ => ?_
  exact X_vreturn d5 rfl rfl

theorem dd9_init : AllD (ib i9_init) [(0, .aload_n 0, 1), (1, .invokespecial 3, 3), (4, .aload_n 0, 1), (5, .sipush 800, 3), (8, .newarray .int, 2), (10, .putfield 9, 3), (13, .aload_n 0, 1), (14, .iconst 0, 1), (15, .putfield 15, 3), (18, .aload_n 0, 1), (19, .iconst 0, 1), (20, .putfield 19, 3), (23, .aload_n 0, 1), (24, .iconst 0, 1), (25, .putfield 22, 3), (28, .aload_n 0, 1), (29, .iconst 0, 1), (30, .putfield 25, 3), (33, .aload_n 0, 1), (34, .lconst 0, 1), (35, .putfield 28, 3), (38, .aload_n 0, 1), (39, .iconst 0, 1), (40, .putfield 32, 3), (43, .return_, 1)] := allD_of (by decide +kernel)
def f9_init (M : MM) (a0 : Nat) : Option MM :=
  gd (a0 ≠ 0) <|
  gd (¬ (800 : Int32) < 0 ∧ (800 : Int32).toNatClampNeg ≤ 60000000) <|
  bW (mz M) fun q8 =>
  bM (nw M 0 (800 : Int32).toNatClampNeg) fun M8 =>
  aO M8 a0 9 <|
  bM (sR M8 a0 0 q8) fun M10 =>
  aO M10 a0 9 <|
  bM (sI M10 a0 1 (0 : Int32)) fun M15 =>
  aO M15 a0 9 <|
  bM (sI M15 a0 2 (0 : Int32)) fun M20 =>
  aO M20 a0 9 <|
  bM (sI M20 a0 3 (0 : Int32)) fun M25 =>
  aO M25 a0 9 <|
  bM (sI M25 a0 4 (0 : Int32)) fun M30 =>
  aO M30 a0 9 <|
  bM (sJ M30 a0 5 (0 : Int64)) fun M35 =>
  aO M35 a0 9 <|
  bM (sI M35 a0 6 (0 : Int32)) fun M40 =>
  some M40
set_option maxRecDepth 4000 in
theorem T9_init (M : MM) (a0 : Nat) : ∀ q, f9_init M a0 = some q → Run i9_init [vr a0] M (Lv q) := by
  obtain ⟨d0, d1, d4, d5, d8, d10, d13, d14, d15, d18, d19, d20, d23, d24, d25, d28, d29, d30, d33, d34, d35, d38, d39, d40, d43, -⟩ := dd9_init
  refine Run_of_X (by decide) (Nat.le_of_ble_eq_true rfl) ?_
  show X Lv i9_init 0 [(0, vr a0)] [] M _
  unfold f9_init
  refine X_aloadn 0 d0 rfl ?_
  refine X_objInit d1 oi_x9_3 (by decide) (Nat.le_of_ble_eq_true rfl) ?_
  refine X_aloadn 0 d4 rfl ?_
  refine X_sipush k_s_800 d5 ?_
  refine X_newI d8 ac_int ?_
  refine X_bWr fun q8 _ => ?_
  refine X_bM fun M8 _ => ?_
  refine X_putRF d10 fp_x9_9 (RefT.arr _) rfl rfl ?_
  refine X_bM fun M10 _ => ?_
  refine X_aloadn 0 d13 rfl ?_
  refine X_iconst k_i_0 d14 ?_
  refine X_putI d15 fp_x9_15 ?_
  refine X_bM fun M15 _ => ?_
  refine X_aloadn 0 d18 rfl ?_
  refine X_iconst k_i_0 d19 ?_
  refine X_putI d20 fp_x9_19 ?_
  refine X_bM fun M20 _ => ?_
  refine X_aloadn 0 d23 rfl ?_
  refine X_iconst k_i_0 d24 ?_
  refine X_putI d25 fp_x9_22 ?_
  refine X_bM fun M25 _ => ?_
  refine X_aloadn 0 d28 rfl ?_
  refine X_iconst k_i_0 d29 ?_
  refine X_putI d30 fp_x9_25 ?_
  refine X_bM fun M30 _ => ?_
  refine X_aloadn 0 d33 rfl ?_
  refine X_lconst k_l_0 d34 ?_
  refine X_putJ d35 fp_x9_28 ?_
  refine X_bM fun M35 _ => ?_
  refine X_aloadn 0 d38 rfl ?_
  refine X_iconst k_i_0 d39 ?_
  refine X_putI d40 fp_x9_32 ?_
  refine X_bM fun M40 _ => ?_
  exact X_vreturn d43 rfl rfl

theorem dd10_leastRule_b58 : AllD (ib i10_leastRule) [(58, .iinc 6 1, 3), (61, .goto (-58), 3)] := allD_of (by decide +kernel)
def f10_leastRule_b58 (K3 : MM → Nat → Nat → Nat → Int32 → Int64 → Int32 → Option (Int32 × MM)) (M : MM) (a0 : Nat) (a1 : Nat) (a2 : Nat) (a3 : Int32) (a4 : Int64) (a6 : Int32) : Option (Int32 × MM) :=
  K3 M a0 a1 a2 a3 a4 (a6 + (1 : Int32))
set_option maxRecDepth 4000 in
theorem T10_leastRule_b58 {K3 : MM → Nat → Nat → Nat → Int32 → Int64 → Int32 → Option (Int32 × MM)} (hK3 : ∀ (M : MM) (a0 : Nat) (a1 : Nat) (a2 : Nat) (a3 : Int32) (a4 : Int64) (a6 : Int32), X Li i10_leastRule 3 [(0, vr a0), (1, vr a1), (2, vr a2), (3, vi a3), (4, vl a4), (6, vi a6)] [] M (K3 M a0 a1 a2 a3 a4 a6)) : ∀ (M : MM) (a0 : Nat) (a1 : Nat) (a2 : Nat) (a3 : Int32) (a4 : Int64) (a6 : Int32), X Li i10_leastRule 58 [(0, vr a0), (1, vr a1), (2, vr a2), (3, vi a3), (4, vl a4), (6, vi a6)] [] M (f10_leastRule_b58 K3 M a0 a1 a2 a3 a4 a6) := by
  obtain ⟨d58, d61, -⟩ := dd10_leastRule_b58
  intro M a0 a1 a2 a3 a4 a6
  unfold f10_leastRule_b58
  refine X_inc (lv' := [(6, vi (a6 + (1 : Int32))), (0, vr a0), (1, vr a1), (2, vr a2), (3, vi a3), (4, vl a4)]) 5 d58 k_i_1 rfl (by decide) rfl ?_
  refine X_goto (t := 3) d61 rfl ?_
  refine X_sub [1, 2, 3, 4, 5, 0] rfl ?_
  exact hK3 M a0 a1 a2 a3 a4 (a6 + (1 : Int32))

theorem dd10_leastRule_b3 : AllD (ib i10_leastRule) [(3, .iload 6, 2), (5, .aload_n 2, 1), (6, .getfield 69, 3), (9, .if_icmp .ge 55, 3), (12, .aload_n 2, 1), (13, .iload 6, 2), (15, .aload_n 0, 1), (16, .getfield 14, 3), (19, .iload_n 3, 1), (20, .invokevirtual 72, 3), (23, .ifCond .eq 35, 3), (26, .aload_n 2, 1), (27, .iload 6, 2), (29, .bipush 6, 2), (31, .invokevirtual 55, 3), (34, .i2l, 1), (35, .aload_n 1, 1), (36, .aload_n 0, 1), (37, .getfield 14, 3), (40, .aload_n 2, 1), (41, .iload 6, 2), (43, .invokevirtual 76, 3), (46, .invokestatic 80, 3), (49, .lload 4, 2), (51, .lcmp, 1), (52, .ifCond .ne 6, 3), (55, .iload 6, 2), (57, .ireturn, 1), (64, .iconst (-1), 1), (65, .ireturn, 1)] := allD_of (by decide +kernel)
def f10_leastRule_b3_body (rc : MM → Nat → Nat → Nat → Int32 → Int64 → Int32 → Option (Int32 × MM)) (M : MM) (a0 : Nat) (a1 : Nat) (a2 : Nat) (a3 : Int32) (a4 : Int64) (a6 : Int32) : Option (Int32 × MM) :=
  aO M a2 7 <|
  if (mI M a2 6) ≤ a6 then
    some ((-1 : Int32), M)
  else
    aO M a0 10 <|
    aO M a2 7 <|
    cI (f7_applies M a2 a6 (mR M a0 0) a3) fun r20 M20 =>
    if r20 = 0 then
      (f10_leastRule_b58 rc) M20 a0 a1 a2 a3 a4 a6
    else
      aO M20 a2 7 <|
      cI (f7_ofRule M20 a2 a6 (6 : Int32)) fun r31 M31 =>
      aO M31 a0 10 <|
      aO M31 a1 1 <|
      cJ (f1_behind M31 a1 (mR M31 a0 0) a2 a6) fun r43 M43 =>
      cJ (f4_sum M43 (r31.toInt64) r43) fun r46 M46 =>
      if r46 = a4 then
        some (a6, M46)
      else
        (f10_leastRule_b58 rc) M46 a0 a1 a2 a3 a4 a6
def f10_leastRule_b3 : MM → Nat → Nat → Nat → Int32 → Int64 → Int32 → Option (Int32 × MM) := LP7 (f10_leastRule_b3_body) FU
set_option maxRecDepth 4000 in
theorem T10_leastRule_b3 : ∀ (M : MM) (a0 : Nat) (a1 : Nat) (a2 : Nat) (a3 : Int32) (a4 : Int64) (a6 : Int32), X Li i10_leastRule 3 [(0, vr a0), (1, vr a1), (2, vr a2), (3, vi a3), (4, vl a4), (6, vi a6)] [] M (f10_leastRule_b3 M a0 a1 a2 a3 a4 a6) := by
  obtain ⟨d3, d5, d6, d9, d12, d13, d15, d16, d19, d20, d23, d26, d27, d29, d31, d34, d35, d36, d37, d40, d41, d43, d46, d49, d51, d52, d55, d57, d64, d65, -⟩ := dd10_leastRule_b3
  refine LP7_i (P := fun M a0 a1 a2 a3 a4 a6 o => X Li i10_leastRule 3 [(0, vr a0), (1, vr a1), (2, vr a2), (3, vi a3), (4, vl a4), (6, vi a6)] [] M o) (fun _ _ _ _ _ _ _ => X_none) (fun rc ih M a0 a1 a2 a3 a4 a6 => ?_) FU
  unfold f10_leastRule_b3_body
  refine X_iload 5 d3 rfl ?_
  refine X_aloadn 2 d5 rfl ?_
  refine X_getI d6 fg_x10_69 ?_
  refine X_icmp_ge (t := 64) d9 rfl (fun h9 => ?_) (fun h9 => ?_)
  · refine X_iconst k_i_m1 d64 ?_
    exact X_ireturn d65 rfl rfl
  · refine X_aloadn 2 d12 rfl ?_
    refine X_iload 5 d13 rfl ?_
    refine X_aloadn 0 d15 rfl ?_
    refine X_getR d16 fg_x10_14 ?_
    refine X_iloadn 3 d19 rfl ?_
    refine X_cVi (as := [vi a6, vr (mR M a0 0), vi a3]) d20 cv_x10_72 ⟨by decide, by decide⟩ rfl (Nat.le_of_ble_eq_true rfl) (T7_applies M a2 a6 (mR M a0 0) a3) (fun r20 M20 _ => ?_)
    refine X_if_eq (t := 58) d23 rfl (fun h23 => ?_) (fun h23 => ?_)
    · exact (T10_leastRule_b58 ih) M20 a0 a1 a2 a3 a4 a6
    · refine X_aloadn 2 d26 rfl ?_
      refine X_iload 5 d27 rfl ?_
      refine X_bipush k_b_6 d29 ?_
      refine X_cVi (as := [vi a6, vi (6 : Int32)]) d31 cv_x10_55 ⟨by decide, by decide⟩ rfl (Nat.le_of_ble_eq_true rfl) (T7_ofRule M20 a2 a6 (6 : Int32)) (fun r31 M31 _ => ?_)
      refine X_i2l d34 ?_
      refine X_aloadn 1 d35 rfl ?_
      refine X_aloadn 0 d36 rfl ?_
      refine X_getR d37 fg_x10_14 ?_
      refine X_aloadn 2 d40 rfl ?_
      refine X_iload 5 d41 rfl ?_
      refine X_cVl (as := [vr (mR M31 a0 0), vr a2, vi a6]) d43 cv_x10_76 ⟨by decide, by decide⟩ rfl (Nat.le_of_ble_eq_true rfl) (T1_behind M31 a1 (mR M31 a0 0) a2 a6) (fun r43 M43 _ => ?_)
      refine X_cSl (as := [vl (r31.toInt64), vl r43]) d46 cs_x10_80 ⟨by decide, by decide⟩ rfl (Nat.le_of_ble_eq_true rfl) (T4_sum M43 (r31.toInt64) r43) (fun r46 M46 _ => ?_)
      refine X_lload 4 d49 rfl ?_
      refine X_lif_ne (t := 58) d51 d52 rfl (fun h51 => ?_) (fun h51 => ?_)
      · refine X_iload 5 d55 rfl ?_
        exact X_ireturn d57 rfl rfl
      · exact (T10_leastRule_b58 ih) M46 a0 a1 a2 a3 a4 a6

theorem dd10_leastRule : AllD (ib i10_leastRule) [(0, .iconst 0, 1), (1, .istore 6, 2)] := allD_of (by decide +kernel)
def f10_leastRule (M : MM) (a0 : Nat) (a1 : Nat) (a2 : Nat) (a3 : Int32) (a4 : Int64) : Option (Int32 × MM) :=
  f10_leastRule_b3 M a0 a1 a2 a3 a4 (0 : Int32)
set_option maxRecDepth 4000 in
theorem T10_leastRule (M : MM) (a0 : Nat) (a1 : Nat) (a2 : Nat) (a3 : Int32) (a4 : Int64) : ∀ q, f10_leastRule M a0 a1 a2 a3 a4 = some q → Run i10_leastRule [vr a0, vr a1, vr a2, vi a3, vl a4] M (Li q) := by
  obtain ⟨d0, d1, -⟩ := dd10_leastRule
  refine Run_of_X (by decide) (Nat.le_of_ble_eq_true rfl) ?_
  show X Li i10_leastRule 0 [(0, vr a0), (1, vr a1), (2, vr a2), (3, vi a3), (4, vl a4)] [] M _
  unfold f10_leastRule
  refine X_iconst k_i_0 d0 ?_
  refine X_istore (lv' := [(6, vi (0 : Int32)), (0, vr a0), (1, vr a1), (2, vr a2), (3, vi a3), (4, vl a4)]) d1 (by decide) rfl ?_
  refine X_sub [1, 2, 3, 4, 5, 0] rfl ?_
  exact T10_leastRule_b3 M a0 a1 a2 a3 a4 (0 : Int32)

theorem dd10_stepBy_b24 : AllD (ib i10_stepBy) [(24, .iload 5, 2), (26, .aload_n 0, 1), (27, .getfield 14, 3), (30, .getfield 86, 3), (33, .if_icmp .ge 24, 3), (36, .aload_n 1, 1), (37, .iload 5, 2), (39, .aload_n 0, 1), (40, .getfield 14, 3), (43, .iload 5, 2), (45, .invokevirtual 92, 3), (48, .invokevirtual 95, 3), (51, .iinc 5 1, 3), (54, .goto (-30), 3), (57, .return_, 1)] := allD_of (by decide +kernel)
def f10_stepBy_b24_body (rc : MM → Nat → Nat → Int32 → Option MM) (M : MM) (a0 : Nat) (a1 : Nat) (a5 : Int32) : Option MM :=
  aO M a0 10 <|
  aO M (mR M a0 0) 6 <|
  if (mI M (mR M a0 0) 3) ≤ a5 then
    some M
  else
    aO M a0 10 <|
    aO M (mR M a0 0) 6 <|
    cI (f6_signAt M (mR M a0 0) a5) fun r45 M45 =>
    aO M45 a1 1 <|
    cV (f1_layRow M45 a1 a5 r45) fun M48 =>
    rc M48 a0 a1 (a5 + (1 : Int32))
def f10_stepBy_b24 : MM → Nat → Nat → Int32 → Option MM := LP4 (f10_stepBy_b24_body) FU
set_option maxRecDepth 4000 in
theorem T10_stepBy_b24 : ∀ (M : MM) (a0 : Nat) (a1 : Nat) (a5 : Int32), X Lv i10_stepBy 24 [(0, vr a0), (1, vr a1), (5, vi a5)] [] M (f10_stepBy_b24 M a0 a1 a5) := by
  obtain ⟨d24, d26, d27, d30, d33, d36, d37, d39, d40, d43, d45, d48, d51, d54, d57, -⟩ := dd10_stepBy_b24
  refine LP4_i (P := fun M a0 a1 a5 o => X Lv i10_stepBy 24 [(0, vr a0), (1, vr a1), (5, vi a5)] [] M o) (fun _ _ _ _ => X_none) (fun rc ih M a0 a1 a5 => ?_) FU
  unfold f10_stepBy_b24_body
  refine X_iload 2 d24 rfl ?_
  refine X_aloadn 0 d26 rfl ?_
  refine X_getR d27 fg_x10_14 ?_
  refine X_getI d30 fg_x10_86 ?_
  refine X_icmp_ge (t := 57) d33 rfl (fun h33 => ?_) (fun h33 => ?_)
  · exact X_vreturn d57 rfl rfl
  · refine X_aloadn 1 d36 rfl ?_
    refine X_iload 2 d37 rfl ?_
    refine X_aloadn 0 d39 rfl ?_
    refine X_getR d40 fg_x10_14 ?_
    refine X_iload 2 d43 rfl ?_
    refine X_cVi (as := [vi a5]) d45 cv_x10_92 ⟨by decide, by decide⟩ rfl (Nat.le_of_ble_eq_true rfl) (T6_signAt M (mR M a0 0) a5) (fun r45 M45 _ => ?_)
    refine X_cVv (as := [vi a5, vi r45]) d48 cv_x10_95 ⟨by decide, by decide⟩ rfl (Nat.le_of_ble_eq_true rfl) (T1_layRow M45 a1 a5 r45) (fun M48 _ => ?_)
    refine X_inc (lv' := [(5, vi (a5 + (1 : Int32))), (0, vr a0), (1, vr a1)]) 2 d51 k_i_1 rfl (by decide) rfl ?_
    refine X_goto (t := 24) d54 rfl ?_
    refine X_sub [1, 2, 0] rfl ?_
    exact ih M48 a0 a1 (a5 + (1 : Int32))

theorem dd10_stepBy : AllD (ib i10_stepBy) [(0, .aload_n 0, 1), (1, .getfield 14, 3), (4, .getfield 86, 3), (7, .iconst 1, 1), (8, .isub, 1), (9, .istore 4, 2), (11, .aload_n 0, 1), (12, .getfield 14, 3), (15, .aload_n 2, 1), (16, .iload_n 3, 1), (17, .invokevirtual 89, 3), (20, .iload 4, 2), (22, .istore 5, 2)] := allD_of (by decide +kernel)
def f10_stepBy (M : MM) (a0 : Nat) (a1 : Nat) (a2 : Nat) (a3 : Int32) : Option MM :=
  aO M a0 10 <|
  aO M (mR M a0 0) 6 <|
  bW ((mI M (mR M a0 0) 3) - (1 : Int32)) fun v9 =>
  aO M a0 10 <|
  aO M (mR M a0 0) 6 <|
  cV (f6_stepBy M (mR M a0 0) a2 a3) fun M17 =>
  f10_stepBy_b24 M17 a0 a1 v9
set_option maxRecDepth 4000 in
theorem T10_stepBy (M : MM) (a0 : Nat) (a1 : Nat) (a2 : Nat) (a3 : Int32) : ∀ q, f10_stepBy M a0 a1 a2 a3 = some q → Run i10_stepBy [vr a0, vr a1, vr a2, vi a3] M (Lv q) := by
  obtain ⟨d0, d1, d4, d7, d8, d9, d11, d12, d15, d16, d17, d20, d22, -⟩ := dd10_stepBy
  refine Run_of_X (by decide) (Nat.le_of_ble_eq_true rfl) ?_
  show X Lv i10_stepBy 0 [(0, vr a0), (1, vr a1), (2, vr a2), (3, vi a3)] [] M _
  unfold f10_stepBy
  refine X_aloadn 0 d0 rfl ?_
  refine X_getR d1 fg_x10_14 ?_
  refine X_getI d4 fg_x10_86 ?_
  refine X_iconst k_i_1 d7 ?_
  refine X_isub d8 ?_
  refine X_bWi fun v9 _ => ?_
  refine X_istore (lv' := [(4, vi v9), (0, vr a0), (1, vr a1), (2, vr a2), (3, vi a3)]) d9 (by decide) rfl ?_
  refine X_aloadn 1 d11 rfl ?_
  refine X_getR d12 fg_x10_14 ?_
  refine X_aloadn 3 d15 rfl ?_
  refine X_iloadn 4 d16 rfl ?_
  refine X_cVv (as := [vr a2, vi a3]) d17 cv_x10_89 ⟨by decide, by decide⟩ rfl (Nat.le_of_ble_eq_true rfl) (T6_stepBy M (mR M a0 0) a2 a3) (fun M17 _ => ?_)
  refine X_iload 0 d20 rfl ?_
  refine X_istore (lv' := [(5, vi v9), (4, vi v9), (0, vr a0), (1, vr a1), (2, vr a2), (3, vi a3)]) d22 (by decide) rfl ?_
  refine X_sub [2, 3, 0] rfl ?_
  exact T10_stepBy_b24 M17 a0 a1 v9

theorem dd10_follow_b133 : AllD (ib i10_follow) [(133, .aload_n 0, 1), (134, .lload 5, 2), (136, .lconst 0, 1), (137, .lcmp, 1), (138, .ifCond .le 7, 3), (141, .iconst 1, 1), (142, .goto 4, 3), (145, .iconst 0, 1), (146, .putfield 31, 3), (149, .return_, 1)] := allD_of (by decide +kernel)
def f10_follow_b133 (M : MM) (a0 : Nat) (a5 : Int64) : Option MM :=
  if a5 ≤ (0 : Int64) then
    aO M a0 10 <|
    bM (sI M a0 3 (0 : Int32)) fun M146 =>
    some M146
  else
    aO M a0 10 <|
    bM (sI M a0 3 (1 : Int32)) fun M146 =>
    some M146
set_option maxRecDepth 4000 in
theorem T10_follow_b133 : ∀ (M : MM) (a0 : Nat) (a5 : Int64), X Lv i10_follow 133 [(0, vr a0), (5, vl a5)] [] M (f10_follow_b133 M a0 a5) := by
  obtain ⟨d133, d134, d136, d137, d138, d141, d142, d145, d146, d149, -⟩ := dd10_follow_b133
  intro M a0 a5
  unfold f10_follow_b133
  refine X_aloadn 0 d133 rfl ?_
  refine X_lload 1 d134 rfl ?_
  refine X_lconst k_l_0 d136 ?_
  refine X_lif_le (t := 145) d137 d138 rfl (fun h137 => ?_) (fun h137 => ?_)
  · refine X_iconst k_i_0 d145 ?_
    refine X_putZc d146 fp_x10_31 (by decide) ?_
    refine X_bM fun M146 _ => ?_
    exact X_vreturn d149 rfl rfl
  · refine X_iconst k_i_1 d141 ?_
    refine X_goto (t := 146) d142 rfl ?_
    refine X_putZc d146 fp_x10_31 (by decide) ?_
    refine X_bM fun M146 _ => ?_
    exact X_vreturn d149 rfl rfl

theorem dd10_follow_b42 : AllD (ib i10_follow) [(42, .lload 5, 2), (44, .lconst 0, 1), (45, .lcmp, 1), (46, .ifCond .le 87, 3), (49, .aload_n 0, 1), (50, .getfield 27, 3), (53, .bipush 100, 2), (55, .if_icmp .ge 78, 3), (58, .aload_n 0, 1), (59, .getfield 31, 3), (62, .ifCond .ne 71, 3), (65, .aload_n 0, 1), (66, .aload_n 1, 1), (67, .aload_n 2, 1), (68, .iload_n 3, 1), (69, .lload 5, 2), (71, .invokevirtual 51, 3), (74, .istore 7, 2), (76, .iload 7, 2), (78, .iconst (-1), 1), (79, .if_icmp .ne 6, 3), (82, .goto 51, 3), (85, .lload 5, 2), (87, .aload_n 2, 1), (88, .iload 7, 2), (90, .bipush 6, 2), (92, .invokevirtual 55, 3), (95, .i2l, 1), (96, .lsub, 1), (97, .lstore 5, 2), (99, .aload_n 0, 1), (100, .getfield 23, 3), (103, .aload_n 0, 1), (104, .getfield 27, 3), (107, .iload 7, 2), (109, .invokevirtual 61, 3), (112, .aload_n 0, 1), (113, .dup, 1), (114, .getfield 27, 3), (117, .iconst 1, 1), (118, .iadd, 1), (119, .putfield 27, 3), (122, .aload_n 0, 1), (123, .aload_n 1, 1), (124, .aload_n 2, 1), (125, .iload 7, 2), (127, .invokevirtual 65, 3), (130, .goto (-88), 3)] := allD_of (by decide +kernel)
def f10_follow_b42_body (rc : MM → Nat → Nat → Nat → Int32 → Int64 → Option MM) (M : MM) (a0 : Nat) (a1 : Nat) (a2 : Nat) (a3 : Int32) (a5 : Int64) : Option MM :=
  if a5 ≤ (0 : Int64) then
    f10_follow_b133 M a0 a5
  else
    aO M a0 10 <|
    if (100 : Int32) ≤ (mI M a0 2) then
      f10_follow_b133 M a0 a5
    else
      aO M a0 10 <|
      if (mI M a0 3) = 0 then
        aO M a0 10 <|
        cI (f10_leastRule M a0 a1 a2 a3 a5) fun r71 M71 =>
        if r71 = (-1 : Int32) then
          f10_follow_b133 M71 a0 a5
        else
          aO M71 a2 7 <|
          cI (f7_ofRule M71 a2 r71 (6 : Int32)) fun r92 M92 =>
          bW (a5 - (r92.toInt64)) fun v97 =>
          aO M92 a0 10 <|
          aO M92 a0 10 <|
          aO M92 (mR M92 a0 1) 3 <|
          cV (f3_set M92 (mR M92 a0 1) (mI M92 a0 2) r71) fun M109 =>
          aO M109 a0 10 <|
          aO M109 a0 10 <|
          bM (sI M109 a0 2 ((mI M109 a0 2) + (1 : Int32))) fun M119 =>
          aO M119 a0 10 <|
          cV (f10_stepBy M119 a0 a1 a2 r71) fun M127 =>
          rc M127 a0 a1 a2 a3 v97
      else
        f10_follow_b133 M a0 a5
def f10_follow_b42 : MM → Nat → Nat → Nat → Int32 → Int64 → Option MM := LP6 (f10_follow_b42_body) FU
set_option maxRecDepth 4000 in
theorem T10_follow_b42 : ∀ (M : MM) (a0 : Nat) (a1 : Nat) (a2 : Nat) (a3 : Int32) (a5 : Int64), X Lv i10_follow 42 [(0, vr a0), (1, vr a1), (2, vr a2), (3, vi a3), (5, vl a5)] [] M (f10_follow_b42 M a0 a1 a2 a3 a5) := by
  obtain ⟨d42, d44, d45, d46, d49, d50, d53, d55, d58, d59, d62, d65, d66, d67, d68, d69, d71, d74, d76, d78, d79, d82, d85, d87, d88, d90, d92, d95, d96, d97, d99, d100, d103, d104, d107, d109, d112, d113, d114, d117, d118, d119, d122, d123, d124, d125, d127, d130, -⟩ := dd10_follow_b42
  refine LP6_i (P := fun M a0 a1 a2 a3 a5 o => X Lv i10_follow 42 [(0, vr a0), (1, vr a1), (2, vr a2), (3, vi a3), (5, vl a5)] [] M o) (fun _ _ _ _ _ _ => X_none) (fun rc ih M a0 a1 a2 a3 a5 => ?_) FU
  unfold f10_follow_b42_body
  refine X_lload 4 d42 rfl ?_
  refine X_lconst k_l_0 d44 ?_
  refine X_lif_le (t := 133) d45 d46 rfl (fun h45 => ?_) (fun h45 => ?_)
  · refine X_sub [0, 4] rfl ?_
    exact T10_follow_b133 M a0 a5
  · refine X_aloadn 0 d49 rfl ?_
    refine X_getI d50 fg_x10_27 ?_
    refine X_bipush k_b_100 d53 ?_
    refine X_icmp_ge (t := 133) d55 rfl (fun h55 => ?_) (fun h55 => ?_)
    · refine X_sub [0, 4] rfl ?_
      exact T10_follow_b133 M a0 a5
    · refine X_aloadn 0 d58 rfl ?_
      refine X_getI d59 fg_x10_31 ?_
      refine X_if_ne (t := 133) d62 rfl (fun h62 => ?_) (fun h62 => ?_)
      · refine X_aloadn 0 d65 rfl ?_
        refine X_aloadn 1 d66 rfl ?_
        refine X_aloadn 2 d67 rfl ?_
        refine X_iloadn 3 d68 rfl ?_
        refine X_lload 4 d69 rfl ?_
        refine X_cVi (as := [vr a1, vr a2, vi a3, vl a5]) d71 cv_x10_51 ⟨by decide, by decide⟩ rfl (Nat.le_of_ble_eq_true rfl) (T10_leastRule M a0 a1 a2 a3 a5) (fun r71 M71 _ => ?_)
        refine X_istore (lv' := [(7, vi r71), (0, vr a0), (1, vr a1), (2, vr a2), (3, vi a3), (5, vl a5)]) d74 (by decide) rfl ?_
        refine X_iload 0 d76 rfl ?_
        refine X_iconst k_i_m1 d78 ?_
        refine X_icmp_ne (t := 85) d79 rfl (fun h79 => ?_) (fun h79 => ?_)
        · refine X_goto (t := 133) d82 rfl ?_
          refine X_sub [1, 5] rfl ?_
          exact T10_follow_b133 M71 a0 a5
        · refine X_lload 5 d85 rfl ?_
          refine X_aloadn 3 d87 rfl ?_
          refine X_iload 0 d88 rfl ?_
          refine X_bipush k_b_6 d90 ?_
          refine X_cVi (as := [vi r71, vi (6 : Int32)]) d92 cv_x10_55 ⟨by decide, by decide⟩ rfl (Nat.le_of_ble_eq_true rfl) (T7_ofRule M71 a2 r71 (6 : Int32)) (fun r92 M92 _ => ?_)
          refine X_i2l d95 ?_
          refine X_lsub d96 ?_
          refine X_bWl fun v97 _ => ?_
          refine X_lstore (lv' := [(5, vl v97), (7, vi r71), (0, vr a0), (1, vr a1), (2, vr a2), (3, vi a3)]) d97 (by decide) rfl ?_
          refine X_aloadn 2 d99 rfl ?_
          refine X_getR d100 fg_x10_23 ?_
          refine X_aloadn 2 d103 rfl ?_
          refine X_getI d104 fg_x10_27 ?_
          refine X_iload 1 d107 rfl ?_
          refine X_cVv (as := [vi (mI M92 a0 2), vi r71]) d109 cv_x10_61 ⟨by decide, by decide⟩ rfl (Nat.le_of_ble_eq_true rfl) (T3_set M92 (mR M92 a0 1) (mI M92 a0 2) r71) (fun M109 _ => ?_)
          refine X_aloadn 2 d112 rfl ?_
          refine X_dupr d113 ?_
          refine X_getI d114 fg_x10_27 ?_
          refine X_iconst k_i_1 d117 ?_
          refine X_iadd d118 ?_
          refine X_putI d119 fp_x10_27 ?_
          refine X_bM fun M119 _ => ?_
          refine X_aloadn 2 d122 rfl ?_
          refine X_aloadn 3 d123 rfl ?_
          refine X_aloadn 4 d124 rfl ?_
          refine X_iload 1 d125 rfl ?_
          refine X_cVv (as := [vr a1, vr a2, vi r71]) d127 cv_x10_65 ⟨by decide, by decide⟩ rfl (Nat.le_of_ble_eq_true rfl) (T10_stepBy M119 a0 a1 a2 r71) (fun M127 _ => ?_)
          refine X_goto (t := 42) d130 rfl ?_
          refine X_sub [2, 3, 4, 5, 0] rfl ?_
          exact ih M127 a0 a1 a2 a3 v97
      · refine X_sub [0, 4] rfl ?_
        exact T10_follow_b133 M a0 a5

theorem dd10_follow_b39 : AllD (ib i10_follow) [(39, .putfield 31, 3)] := allD_of (by decide +kernel)
def f10_follow_b39 (M : MM) (a0 : Nat) (a1 : Nat) (a2 : Nat) (a3 : Int32) (a5 : Int64) (s0 : Int32) (s1 : Nat) : Option MM :=
  aO M s1 10 <|
  gd (s0 = 0 ∨ s0 = 1) <|
  bM (sI M s1 3 s0) fun M39 =>
  f10_follow_b42 M39 a0 a1 a2 a3 a5
set_option maxRecDepth 4000 in
theorem T10_follow_b39 : ∀ (M : MM) (a0 : Nat) (a1 : Nat) (a2 : Nat) (a3 : Int32) (a5 : Int64) (s0 : Int32) (s1 : Nat), X Lv i10_follow 39 [(0, vr a0), (1, vr a1), (2, vr a2), (3, vi a3), (5, vl a5)] [vi s0, vr s1] M (f10_follow_b39 M a0 a1 a2 a3 a5 s0 s1) := by
  obtain ⟨d39, -⟩ := dd10_follow_b39
  intro M a0 a1 a2 a3 a5 s0 s1
  unfold f10_follow_b39
  refine X_putZ d39 fp_x10_31 ?_
  refine X_bM fun M39 _ => ?_
  exact T10_follow_b42 M39 a0 a1 a2 a3 a5

theorem dd10_follow : AllD (ib i10_follow) [(0, .aload_n 0, 1), (1, .getfield 14, 3), (4, .aload 4, 2), (6, .invokevirtual 39, 3), (9, .aload_n 0, 1), (10, .iconst 0, 1), (11, .putfield 27, 3), (14, .aload_n 1, 1), (15, .aload_n 0, 1), (16, .getfield 14, 3), (19, .invokevirtual 43, 3), (22, .lstore 5, 2), (24, .aload_n 0, 1), (25, .lload 5, 2), (27, .ldc2_w 49, 3), (30, .lcmp, 1), (31, .ifCond .le 7, 3), (34, .iconst 1, 1), (35, .goto 4, 3), (38, .iconst 0, 1)] := allD_of (by decide +kernel)
def f10_follow (M : MM) (a0 : Nat) (a1 : Nat) (a2 : Nat) (a3 : Int32) (a4 : Nat) : Option MM :=
  aO M a0 10 <|
  aO M (mR M a0 0) 6 <|
  cV (f6_become M (mR M a0 0) a4) fun M6 =>
  aO M6 a0 10 <|
  bM (sI M6 a0 2 (0 : Int32)) fun M11 =>
  aO M11 a0 10 <|
  aO M11 a1 1 <|
  cJ (f1_of M11 a1 (mR M11 a0 0)) fun r19 M19 =>
  if r19 ≤ (9900 : Int64) then
    f10_follow_b39 M19 a0 a1 a2 a3 r19 (0 : Int32) a0
  else
    f10_follow_b39 M19 a0 a1 a2 a3 r19 (1 : Int32) a0
set_option maxRecDepth 4000 in
theorem T10_follow (M : MM) (a0 : Nat) (a1 : Nat) (a2 : Nat) (a3 : Int32) (a4 : Nat) : ∀ q, f10_follow M a0 a1 a2 a3 a4 = some q → Run i10_follow [vr a0, vr a1, vr a2, vi a3, vr a4] M (Lv q) := by
  obtain ⟨d0, d1, d4, d6, d9, d10, d11, d14, d15, d16, d19, d22, d24, d25, d27, d30, d31, d34, d35, d38, -⟩ := dd10_follow
  refine Run_of_X (by decide) (Nat.le_of_ble_eq_true rfl) ?_
  show X Lv i10_follow 0 [(0, vr a0), (1, vr a1), (2, vr a2), (3, vi a3), (4, vr a4)] [] M _
  unfold f10_follow
  refine X_aloadn 0 d0 rfl ?_
  refine X_getR d1 fg_x10_14 ?_
  refine X_aload 4 d4 rfl ?_
  refine X_cVv (as := [vr a4]) d6 cv_x10_39 ⟨by decide, by decide⟩ rfl (Nat.le_of_ble_eq_true rfl) (T6_become M (mR M a0 0) a4) (fun M6 _ => ?_)
  refine X_aloadn 0 d9 rfl ?_
  refine X_iconst k_i_0 d10 ?_
  refine X_putI d11 fp_x10_27 ?_
  refine X_bM fun M11 _ => ?_
  refine X_aloadn 1 d14 rfl ?_
  refine X_aloadn 0 d15 rfl ?_
  refine X_getR d16 fg_x10_14 ?_
  refine X_cVl (as := [vr (mR M11 a0 0)]) d19 cv_x10_43 ⟨by decide, by decide⟩ rfl (Nat.le_of_ble_eq_true rfl) (T1_of M11 a1 (mR M11 a0 0)) (fun r19 M19 _ => ?_)
  refine X_lstore (lv' := [(5, vl r19), (0, vr a0), (1, vr a1), (2, vr a2), (3, vi a3), (4, vr a4)]) d22 (by decide) rfl ?_
  refine X_aloadn 1 d24 rfl ?_
  refine X_lload 0 d25 rfl ?_
  refine X_ldc2 kc_x10_49 d27 ?_
  refine X_lif_le (t := 38) d30 d31 rfl (fun h30 => ?_) (fun h30 => ?_)
  · refine X_iconst k_i_0 d38 ?_
    refine X_sub [1, 2, 3, 4, 0] rfl ?_
    exact T10_follow_b39 M19 a0 a1 a2 a3 r19 (0 : Int32) a0
  · refine X_iconst k_i_1 d34 ?_
    refine X_goto (t := 39) d35 rfl ?_
    refine X_sub [1, 2, 3, 4, 0] rfl ?_
    exact T10_follow_b39 M19 a0 a1 a2 a3 r19 (1 : Int32) a0

theorem dd10_init : AllD (ib i10_init) [(0, .aload_n 0, 1), (1, .invokespecial 3, 3), (4, .aload_n 0, 1), (5, .new 9, 3), (8, .dup, 1), (9, .sipush 140, 3), (12, .invokespecial 11, 3), (15, .putfield 14, 3), (18, .aload_n 0, 1), (19, .new 20, 3), (22, .dup, 1), (23, .bipush 100, 2), (25, .invokespecial 22, 3), (28, .putfield 23, 3), (31, .aload_n 0, 1), (32, .iconst 0, 1), (33, .putfield 27, 3), (36, .aload_n 0, 1), (37, .iconst 0, 1), (38, .putfield 31, 3), (41, .return_, 1)] := allD_of (by decide +kernel)
def f10_init (M : MM) (a0 : Nat) : Option MM :=
  gd (a0 ≠ 0) <|
  bW (mz M) fun q5 =>
  bM (nw M 9 4) fun M5 =>
  gd (q5 ≠ 0) <|
  cV (f6_init M5 q5 (140 : Int32)) fun M12 =>
  aO M12 a0 10 <|
  bM (sR M12 a0 0 q5) fun M15 =>
  bW (mz M15) fun q19 =>
  bM (nw M15 6 1) fun M19 =>
  gd (q19 ≠ 0) <|
  cV (f3_init M19 q19 (100 : Int32)) fun M25 =>
  aO M25 a0 10 <|
  bM (sR M25 a0 1 q19) fun M28 =>
  aO M28 a0 10 <|
  bM (sI M28 a0 2 (0 : Int32)) fun M33 =>
  aO M33 a0 10 <|
  bM (sI M33 a0 3 (0 : Int32)) fun M38 =>
  some M38
set_option maxRecDepth 4000 in
theorem T10_init (M : MM) (a0 : Nat) : ∀ q, f10_init M a0 = some q → Run i10_init [vr a0] M (Lv q) := by
  obtain ⟨d0, d1, d4, d5, d8, d9, d12, d15, d18, d19, d22, d23, d25, d28, d31, d32, d33, d36, d37, d38, d41, -⟩ := dd10_init
  refine Run_of_X (by decide) (Nat.le_of_ble_eq_true rfl) ?_
  show X Lv i10_init 0 [(0, vr a0)] [] M _
  unfold f10_init
  refine X_aloadn 0 d0 rfl ?_
  refine X_objInit d1 oi_x10_3 (by decide) (Nat.le_of_ble_eq_true rfl) ?_
  refine X_aloadn 0 d4 rfl ?_
  refine X_new d5 nc_x10_9 ?_
  refine X_bWr fun q5 _ => ?_
  refine X_bM fun M5 _ => ?_
  refine X_dupr d8 ?_
  refine X_sipush k_s_140 d9 ?_
  refine X_cIv (as := [vi (140 : Int32)]) d12 ci_x10_11 ⟨by decide, by decide⟩ rfl (Nat.le_of_ble_eq_true rfl) (T6_init M5 q5 (140 : Int32)) (fun M12 _ => ?_)
  refine X_putRF d15 fp_x10_14 (RefT.obj _) rfl rfl ?_
  refine X_bM fun M15 _ => ?_
  refine X_aloadn 0 d18 rfl ?_
  refine X_new d19 nc_x10_20 ?_
  refine X_bWr fun q19 _ => ?_
  refine X_bM fun M19 _ => ?_
  refine X_dupr d22 ?_
  refine X_bipush k_b_100 d23 ?_
  refine X_cIv (as := [vi (100 : Int32)]) d25 ci_x10_22 ⟨by decide, by decide⟩ rfl (Nat.le_of_ble_eq_true rfl) (T3_init M19 q19 (100 : Int32)) (fun M25 _ => ?_)
  refine X_putRF d28 fp_x10_23 (RefT.obj _) rfl rfl ?_
  refine X_bM fun M28 _ => ?_
  refine X_aloadn 0 d31 rfl ?_
  refine X_iconst k_i_0 d32 ?_
  refine X_putI d33 fp_x10_27 ?_
  refine X_bM fun M33 _ => ?_
  refine X_aloadn 0 d36 rfl ?_
  refine X_iconst k_i_0 d37 ?_
  refine X_putZc d38 fp_x10_31 (by decide) ?_
  refine X_bM fun M38 _ => ?_
  exact X_vreturn d41 rfl rfl

theorem dd10_ruleAt : AllD (ib i10_ruleAt) [(0, .aload_n 0, 1), (1, .getfield 23, 3), (4, .iload_n 1, 1), (5, .invokevirtual 35, 3), (8, .ireturn, 1)] := allD_of (by decide +kernel)
def f10_ruleAt (M : MM) (a0 : Nat) (a1 : Int32) : Option (Int32 × MM) :=
  aO M a0 10 <|
  aO M (mR M a0 1) 3 <|
  cI (f3_get M (mR M a0 1) a1) fun r5 M5 =>
  some (r5, M5)
set_option maxRecDepth 4000 in
theorem T10_ruleAt (M : MM) (a0 : Nat) (a1 : Int32) : ∀ q, f10_ruleAt M a0 a1 = some q → Run i10_ruleAt [vr a0, vi a1] M (Li q) := by
  obtain ⟨d0, d1, d4, d5, d8, -⟩ := dd10_ruleAt
  refine Run_of_X (by decide) (Nat.le_of_ble_eq_true rfl) ?_
  show X Li i10_ruleAt 0 [(0, vr a0), (1, vi a1)] [] M _
  unfold f10_ruleAt
  refine X_aloadn 0 d0 rfl ?_
  refine X_getR d1 fg_x10_23 ?_
  refine X_iloadn 1 d4 rfl ?_
  refine X_cVi (as := [vi a1]) d5 cv_x10_35 ⟨by decide, by decide⟩ rfl (Nat.le_of_ble_eq_true rfl) (T3_get M (mR M a0 1) a1) (fun r5 M5 _ => ?_)
  exact X_ireturn d8 rfl rfl

theorem dd11_about : AllD (ib i11_about) [(0, .iload_n 1, 1), (1, .tableswitch 96 0 6 #[43, 51, 59, 67, 75, 80, 88], 43), (44, .aload_n 0, 1), (45, .getfield 19, 3), (48, .getfield 127, 3), (51, .ireturn, 1), (52, .aload_n 0, 1), (53, .getfield 19, 3), (56, .getfield 130, 3), (59, .ireturn, 1), (60, .aload_n 0, 1), (61, .getfield 19, 3), (64, .getfield 118, 3), (67, .ireturn, 1), (68, .aload_n 0, 1), (69, .getfield 19, 3), (72, .getfield 133, 3), (75, .ireturn, 1), (76, .aload_n 0, 1), (77, .getfield 87, 3), (80, .ireturn, 1), (81, .aload_n 0, 1), (82, .getfield 50, 3), (85, .getfield 136, 3), (88, .ireturn, 1), (89, .aload_n 0, 1), (90, .getfield 12, 3), (93, .getfield 98, 3), (96, .ireturn, 1), (97, .iconst (-1), 1), (98, .ireturn, 1)] := allD_of (by decide +kernel)
def f11_about (M : MM) (a0 : Nat) (a1 : Int32) : Option (Int32 × MM) :=
  if a1 = (0 : Int32) then
    aO M a0 11 <|
    aO M (mR M a0 10) 7 <|
    some (mI M (mR M a0 10) 4, M)
  else
  if a1 = (1 : Int32) then
    aO M a0 11 <|
    aO M (mR M a0 10) 7 <|
    some (mI M (mR M a0 10) 5, M)
  else
  if a1 = (2 : Int32) then
    aO M a0 11 <|
    aO M (mR M a0 10) 7 <|
    some (mI M (mR M a0 10) 6, M)
  else
  if a1 = (3 : Int32) then
    aO M a0 11 <|
    aO M (mR M a0 10) 7 <|
    some (mI M (mR M a0 10) 7, M)
  else
  if a1 = (4 : Int32) then
    aO M a0 11 <|
    some (mI M a0 12, M)
  else
  if a1 = (5 : Int32) then
    aO M a0 11 <|
    aO M (mR M a0 4) 0 <|
    some (mI M (mR M a0 4) 2, M)
  else
  if a1 = (6 : Int32) then
    aO M a0 11 <|
    aO M (mR M a0 0) 9 <|
    some (mI M (mR M a0 0) 2, M)
  else
  some ((-1 : Int32), M)
set_option maxRecDepth 4000 in
theorem T11_about (M : MM) (a0 : Nat) (a1 : Int32) : ∀ q, f11_about M a0 a1 = some q → Run i11_about [vr a0, vi a1] M (Li q) := by
  obtain ⟨d0, d1, d44, d45, d48, d51, d52, d53, d56, d59, d60, d61, d64, d67, d68, d69, d72, d75, d76, d77, d80, d81, d82, d85, d88, d89, d90, d93, d96, d97, d98, -⟩ := dd11_about
  refine Run_of_X (by decide) (Nat.le_of_ble_eq_true rfl) ?_
  show X Li i11_about 0 [(0, vr a0), (1, vi a1)] [] M _
  unfold f11_about
  refine X_iloadn 1 d0 rfl ?_
  refine X_ite (fun h1_0 => X_tin (t := 44) h1_0 d1 (by decide) (by decide) rfl rfl ?_) (fun h1_0 => ?_)
  · refine X_aloadn 0 d44 rfl ?_
    refine X_getR d45 fg_x11_19 ?_
    refine X_getI d48 fg_x11_127 ?_
    exact X_ireturn d51 rfl rfl
  refine X_ite (fun h1_1 => X_tin (t := 52) h1_1 d1 (by decide) (by decide) rfl rfl ?_) (fun h1_1 => ?_)
  · refine X_aloadn 0 d52 rfl ?_
    refine X_getR d53 fg_x11_19 ?_
    refine X_getI d56 fg_x11_130 ?_
    exact X_ireturn d59 rfl rfl
  refine X_ite (fun h1_2 => X_tin (t := 60) h1_2 d1 (by decide) (by decide) rfl rfl ?_) (fun h1_2 => ?_)
  · refine X_aloadn 0 d60 rfl ?_
    refine X_getR d61 fg_x11_19 ?_
    refine X_getI d64 fg_x11_118 ?_
    exact X_ireturn d67 rfl rfl
  refine X_ite (fun h1_3 => X_tin (t := 68) h1_3 d1 (by decide) (by decide) rfl rfl ?_) (fun h1_3 => ?_)
  · refine X_aloadn 0 d68 rfl ?_
    refine X_getR d69 fg_x11_19 ?_
    refine X_getI d72 fg_x11_133 ?_
    exact X_ireturn d75 rfl rfl
  refine X_ite (fun h1_4 => X_tin (t := 76) h1_4 d1 (by decide) (by decide) rfl rfl ?_) (fun h1_4 => ?_)
  · refine X_aloadn 0 d76 rfl ?_
    refine X_getI d77 fg_x11_87 ?_
    exact X_ireturn d80 rfl rfl
  refine X_ite (fun h1_5 => X_tin (t := 81) h1_5 d1 (by decide) (by decide) rfl rfl ?_) (fun h1_5 => ?_)
  · refine X_aloadn 0 d81 rfl ?_
    refine X_getR d82 fg_x11_50 ?_
    refine X_getI d85 fg_x11_136 ?_
    exact X_ireturn d88 rfl rfl
  refine X_ite (fun h1_6 => X_tin (t := 89) h1_6 d1 (by decide) (by decide) rfl rfl ?_) (fun h1_6 => ?_)
  · refine X_aloadn 0 d89 rfl ?_
    refine X_getR d90 fg_x11_12 ?_
    refine X_getI d93 fg_x11_98 ?_
    exact X_ireturn d96 rfl rfl
  refine X_tout (t := 97) (tsw_out7 h1_0 h1_1 h1_2 h1_3 h1_4 h1_5 h1_6) d1 rfl ?_
  refine X_iconst k_i_m1 d97 ?_
  exact X_ireturn d98 rfl rfl

theorem dd11_at : AllD (ib i11_at) [(0, .aload_n 0, 1), (1, .getfield 31, 3), (4, .aload_n 0, 1), (5, .getfield 19, 3), (8, .aload_n 0, 1), (9, .getfield 44, 3), (12, .invokevirtual 153, 3), (15, .istore_n 1, 1), (16, .aload_n 0, 1), (17, .getfield 12, 3), (20, .iconst 0, 1), (21, .invokevirtual 104, 3), (24, .iload_n 1, 1), (25, .ifCond .ne 5, 3), (28, .iconst (-1), 1), (29, .ireturn, 1), (30, .aload_n 0, 1), (31, .getfield 50, 3), (34, .aload_n 0, 1), (35, .getfield 40, 3), (38, .aload_n 0, 1), (39, .getfield 87, 3), (42, .invokevirtual 157, 3), (45, .aload_n 0, 1), (46, .getfield 40, 3), (49, .aload_n 0, 1), (50, .getfield 44, 3), (53, .invokevirtual 161, 3), (56, .aload_n 0, 1), (57, .getfield 40, 3), (60, .getfield 165, 3), (63, .ireturn, 1)] := allD_of (by decide +kernel)
def f11_at (M : MM) (a0 : Nat) : Option (Int32 × MM) :=
  aO M a0 11 <|
  aO M a0 11 <|
  aO M a0 11 <|
  aO M (mR M a0 1) 8 <|
  cI (f8_readsPlace M (mR M a0 1) (mR M a0 10) (mR M a0 3)) fun r12 M12 =>
  aO M12 a0 11 <|
  aO M12 (mR M12 a0 0) 9 <|
  cV (f9_cut M12 (mR M12 a0 0) (0 : Int32)) fun M21 =>
  if r12 = 0 then
    some ((-1 : Int32), M21)
  else
    aO M21 a0 11 <|
    aO M21 a0 11 <|
    aO M21 a0 11 <|
    aO M21 (mR M21 a0 4) 0 <|
    cV (f0_keep M21 (mR M21 a0 4) (mR M21 a0 2) (mI M21 a0 12)) fun M42 =>
    aO M42 a0 11 <|
    aO M42 a0 11 <|
    aO M42 (mR M42 a0 2) 6 <|
    cV (f6_become M42 (mR M42 a0 2) (mR M42 a0 3)) fun M53 =>
    aO M53 a0 11 <|
    aO M53 (mR M53 a0 2) 6 <|
    some (mI M53 (mR M53 a0 2) 3, M53)
set_option maxRecDepth 4000 in
theorem T11_at (M : MM) (a0 : Nat) : ∀ q, f11_at M a0 = some q → Run i11_at [vr a0] M (Li q) := by
  obtain ⟨d0, d1, d4, d5, d8, d9, d12, d15, d16, d17, d20, d21, d24, d25, d28, d29, d30, d31, d34, d35, d38, d39, d42, d45, d46, d49, d50, d53, d56, d57, d60, d63, -⟩ := dd11_at
  refine Run_of_X (by decide) (Nat.le_of_ble_eq_true rfl) ?_
  show X Li i11_at 0 [(0, vr a0)] [] M _
  unfold f11_at
  refine X_aloadn 0 d0 rfl ?_
  refine X_getR d1 fg_x11_31 ?_
  refine X_aloadn 0 d4 rfl ?_
  refine X_getR d5 fg_x11_19 ?_
  refine X_aloadn 0 d8 rfl ?_
  refine X_getR d9 fg_x11_44 ?_
  refine X_cVi (as := [vr (mR M a0 10), vr (mR M a0 3)]) d12 cv_x11_153 ⟨by decide, by decide⟩ rfl (Nat.le_of_ble_eq_true rfl) (T8_readsPlace M (mR M a0 1) (mR M a0 10) (mR M a0 3)) (fun r12 M12 _ => ?_)
  refine X_istoren (lv' := [(1, vi r12), (0, vr a0)]) d15 (by decide) rfl ?_
  refine X_aloadn 1 d16 rfl ?_
  refine X_getR d17 fg_x11_12 ?_
  refine X_iconst k_i_0 d20 ?_
  refine X_cVv (as := [vi (0 : Int32)]) d21 cv_x11_104 ⟨by decide, by decide⟩ rfl (Nat.le_of_ble_eq_true rfl) (T9_cut M12 (mR M12 a0 0) (0 : Int32)) (fun M21 _ => ?_)
  refine X_iloadn 0 d24 rfl ?_
  refine X_if_ne (t := 30) d25 rfl (fun h25 => ?_) (fun h25 => ?_)
  · refine X_iconst k_i_m1 d28 ?_
    exact X_ireturn d29 rfl rfl
  · refine X_aloadn 1 d30 rfl ?_
    refine X_getR d31 fg_x11_50 ?_
    refine X_aloadn 1 d34 rfl ?_
    refine X_getR d35 fg_x11_40 ?_
    refine X_aloadn 1 d38 rfl ?_
    refine X_getI d39 fg_x11_87 ?_
    refine X_cVv (as := [vr (mR M21 a0 2), vi (mI M21 a0 12)]) d42 cv_x11_157 ⟨by decide, by decide⟩ rfl (Nat.le_of_ble_eq_true rfl) (T0_keep M21 (mR M21 a0 4) (mR M21 a0 2) (mI M21 a0 12)) (fun M42 _ => ?_)
    refine X_aloadn 1 d45 rfl ?_
    refine X_getR d46 fg_x11_40 ?_
    refine X_aloadn 1 d49 rfl ?_
    refine X_getR d50 fg_x11_44 ?_
    refine X_cVv (as := [vr (mR M42 a0 3)]) d53 cv_x11_161 ⟨by decide, by decide⟩ rfl (Nat.le_of_ble_eq_true rfl) (T6_become M42 (mR M42 a0 2) (mR M42 a0 3)) (fun M53 _ => ?_)
    refine X_aloadn 1 d56 rfl ?_
    refine X_getR d57 fg_x11_40 ?_
    refine X_getI d60 fg_x11_165 ?_
    exact X_ireturn d63 rfl rfl

theorem dd11_bitByNumber_b28 : AllD (ib i11_bitByNumber) [(28, .iinc 3 1, 3), (31, .goto (-27), 3)] := allD_of (by decide +kernel)
def f11_bitByNumber_b28 (K4 : MM → Int32 → Int32 → Int32 → Option (Int32 × MM)) (M : MM) (a0 : Int32) (a2 : Int32) (a3 : Int32) : Option (Int32 × MM) :=
  K4 M a0 a2 (a3 + (1 : Int32))
set_option maxRecDepth 4000 in
theorem T11_bitByNumber_b28 {K4 : MM → Int32 → Int32 → Int32 → Option (Int32 × MM)} (hK4 : ∀ (M : MM) (a0 : Int32) (a2 : Int32) (a3 : Int32), X Li i11_bitByNumber 4 [(0, vi a0), (2, vi a2), (3, vi a3)] [] M (K4 M a0 a2 a3)) : ∀ (M : MM) (a0 : Int32) (a2 : Int32) (a3 : Int32), X Li i11_bitByNumber 28 [(0, vi a0), (2, vi a2), (3, vi a3)] [] M (f11_bitByNumber_b28 K4 M a0 a2 a3) := by
  obtain ⟨d28, d31, -⟩ := dd11_bitByNumber_b28
  intro M a0 a2 a3
  unfold f11_bitByNumber_b28
  refine X_inc (lv' := [(3, vi (a3 + (1 : Int32))), (0, vi a0), (2, vi a2)]) 2 d28 k_i_1 rfl (by decide) rfl ?_
  refine X_goto (t := 4) d31 rfl ?_
  refine X_sub [1, 2, 0] rfl ?_
  exact hK4 M a0 a2 (a3 + (1 : Int32))

theorem dd11_bitByNumber_b4 : AllD (ib i11_bitByNumber) [(4, .iload_n 3, 1), (5, .bipush 14, 2), (7, .if_icmp .ge 27, 3), (10, .iload_n 0, 1), (11, .iload_n 3, 1), (12, .iushr, 1), (13, .iconst 1, 1), (14, .iand, 1), (15, .iconst 1, 1), (16, .if_icmp .ne 12, 3), (19, .iload_n 2, 1), (20, .ifCond .ne 5, 3), (23, .iload_n 3, 1), (24, .ireturn, 1), (25, .iinc 2 (-1), 3), (34, .iconst (-1), 1), (35, .ireturn, 1)] := allD_of (by decide +kernel)
def f11_bitByNumber_b4_body (rc : MM → Int32 → Int32 → Int32 → Option (Int32 × MM)) (M : MM) (a0 : Int32) (a2 : Int32) (a3 : Int32) : Option (Int32 × MM) :=
  if (14 : Int32) ≤ a3 then
    some ((-1 : Int32), M)
  else
    if ((ushr a0 a3) &&& (1 : Int32)) = (1 : Int32) then
      if a2 = 0 then
        some (a3, M)
      else
        (f11_bitByNumber_b28 rc) M a0 (a2 + (-1 : Int32)) a3
    else
      (f11_bitByNumber_b28 rc) M a0 a2 a3
def f11_bitByNumber_b4 : MM → Int32 → Int32 → Int32 → Option (Int32 × MM) := LP4 (f11_bitByNumber_b4_body) FU
set_option maxRecDepth 4000 in
theorem T11_bitByNumber_b4 : ∀ (M : MM) (a0 : Int32) (a2 : Int32) (a3 : Int32), X Li i11_bitByNumber 4 [(0, vi a0), (2, vi a2), (3, vi a3)] [] M (f11_bitByNumber_b4 M a0 a2 a3) := by
  obtain ⟨d4, d5, d7, d10, d11, d12, d13, d14, d15, d16, d19, d20, d23, d24, d25, d34, d35, -⟩ := dd11_bitByNumber_b4
  refine LP4_i (P := fun M a0 a2 a3 o => X Li i11_bitByNumber 4 [(0, vi a0), (2, vi a2), (3, vi a3)] [] M o) (fun _ _ _ _ => X_none) (fun rc ih M a0 a2 a3 => ?_) FU
  unfold f11_bitByNumber_b4_body
  refine X_iloadn 2 d4 rfl ?_
  refine X_bipush k_b_14 d5 ?_
  refine X_icmp_ge (t := 34) d7 rfl (fun h7 => ?_) (fun h7 => ?_)
  · refine X_iconst k_i_m1 d34 ?_
    exact X_ireturn d35 rfl rfl
  · refine X_iloadn 0 d10 rfl ?_
    refine X_iloadn 2 d11 rfl ?_
    refine X_iushr d12 ?_
    refine X_iconst k_i_1 d13 ?_
    refine X_iand d14 ?_
    refine X_iconst k_i_1 d15 ?_
    refine X_icmp_ne (t := 28) d16 rfl (fun h16 => ?_) (fun h16 => ?_)
    · refine X_iloadn 1 d19 rfl ?_
      refine X_if_ne (t := 25) d20 rfl (fun h20 => ?_) (fun h20 => ?_)
      · refine X_iloadn 2 d23 rfl ?_
        exact X_ireturn d24 rfl rfl
      · refine X_inc (lv' := [(2, vi (a2 + (-1 : Int32))), (0, vi a0), (3, vi a3)]) 1 d25 k_i_m1 rfl (by decide) rfl ?_
        refine X_sub [1, 0, 2] rfl ?_
        exact (T11_bitByNumber_b28 ih) M a0 (a2 + (-1 : Int32)) a3
    · exact (T11_bitByNumber_b28 ih) M a0 a2 a3

theorem dd11_bitByNumber : AllD (ib i11_bitByNumber) [(0, .iload_n 1, 1), (1, .istore_n 2, 1), (2, .iconst 0, 1), (3, .istore_n 3, 1)] := allD_of (by decide +kernel)
def f11_bitByNumber (M : MM) (a0 : Int32) (a1 : Int32) : Option (Int32 × MM) :=
  f11_bitByNumber_b4 M a0 a1 (0 : Int32)
set_option maxRecDepth 4000 in
theorem T11_bitByNumber (M : MM) (a0 : Int32) (a1 : Int32) : ∀ q, f11_bitByNumber M a0 a1 = some q → Run i11_bitByNumber [vi a0, vi a1] M (Li q) := by
  obtain ⟨d0, d1, d2, d3, -⟩ := dd11_bitByNumber
  refine Run_of_X (by decide) (Nat.le_of_ble_eq_true rfl) ?_
  show X Li i11_bitByNumber 0 [(0, vi a0), (1, vi a1)] [] M _
  unfold f11_bitByNumber
  refine X_iloadn 1 d0 rfl ?_
  refine X_istoren (lv' := [(2, vi a1), (0, vi a0), (1, vi a1)]) d1 (by decide) rfl ?_
  refine X_iconst k_i_0 d2 ?_
  refine X_istoren (lv' := [(3, vi (0 : Int32)), (2, vi a1), (0, vi a0), (1, vi a1)]) d3 (by decide) rfl ?_
  refine X_sub [2, 1, 0] rfl ?_
  exact T11_bitByNumber_b4 M a0 a1 (0 : Int32)

theorem dd11_canStep : AllD (ib i11_canStep) [(0, .aload_n 0, 1), (1, .getfield 19, 3), (4, .iload_n 1, 1), (5, .aload_n 0, 1), (6, .getfield 40, 3), (9, .aload_n 0, 1), (10, .getfield 87, 3), (13, .invokevirtual 341, 3), (16, .ifCond .eq 31, 3), (19, .aload_n 0, 1), (20, .getfield 40, 3), (23, .getfield 165, 3), (26, .iconst 1, 1), (27, .isub, 1), (28, .aload_n 0, 1), (29, .getfield 19, 3), (32, .iload_n 1, 1), (33, .iconst 3, 1), (34, .invokevirtual 146, 3), (37, .iadd, 1), (38, .bipush 40, 2), (40, .if_icmp .gt 7, 3), (43, .iconst 1, 1), (44, .goto 4, 3), (47, .iconst 0, 1), (48, .ireturn, 1)] := allD_of (by decide +kernel)
def f11_canStep (M : MM) (a0 : Nat) (a1 : Int32) : Option (Int32 × MM) :=
  aO M a0 11 <|
  aO M a0 11 <|
  aO M a0 11 <|
  aO M (mR M a0 10) 7 <|
  cI (f7_applies M (mR M a0 10) a1 (mR M a0 2) (mI M a0 12)) fun r13 M13 =>
  if r13 = 0 then
    some ((0 : Int32), M13)
  else
    aO M13 a0 11 <|
    aO M13 (mR M13 a0 2) 6 <|
    aO M13 a0 11 <|
    aO M13 (mR M13 a0 10) 7 <|
    cI (f7_ofRule M13 (mR M13 a0 10) a1 (3 : Int32)) fun r34 M34 =>
    if (40 : Int32) < (((mI M13 (mR M13 a0 2) 3) - (1 : Int32)) + r34) then
      some ((0 : Int32), M34)
    else
      some ((1 : Int32), M34)
set_option maxRecDepth 4000 in
theorem T11_canStep (M : MM) (a0 : Nat) (a1 : Int32) : ∀ q, f11_canStep M a0 a1 = some q → Run i11_canStep [vr a0, vi a1] M (Li q) := by
  obtain ⟨d0, d1, d4, d5, d6, d9, d10, d13, d16, d19, d20, d23, d26, d27, d28, d29, d32, d33, d34, d37, d38, d40, d43, d44, d47, d48, -⟩ := dd11_canStep
  refine Run_of_X (by decide) (Nat.le_of_ble_eq_true rfl) ?_
  show X Li i11_canStep 0 [(0, vr a0), (1, vi a1)] [] M _
  unfold f11_canStep
  refine X_aloadn 0 d0 rfl ?_
  refine X_getR d1 fg_x11_19 ?_
  refine X_iloadn 1 d4 rfl ?_
  refine X_aloadn 0 d5 rfl ?_
  refine X_getR d6 fg_x11_40 ?_
  refine X_aloadn 0 d9 rfl ?_
  refine X_getI d10 fg_x11_87 ?_
  refine X_cVi (as := [vi a1, vr (mR M a0 2), vi (mI M a0 12)]) d13 cv_x11_341 ⟨by decide, by decide⟩ rfl (Nat.le_of_ble_eq_true rfl) (T7_applies M (mR M a0 10) a1 (mR M a0 2) (mI M a0 12)) (fun r13 M13 _ => ?_)
  refine X_if_eq (t := 47) d16 rfl (fun h16 => ?_) (fun h16 => ?_)
  · refine X_iconst k_i_0 d47 ?_
    exact X_zreturnc d48 rfl (by decide) rfl
  · refine X_aloadn 0 d19 rfl ?_
    refine X_getR d20 fg_x11_40 ?_
    refine X_getI d23 fg_x11_165 ?_
    refine X_iconst k_i_1 d26 ?_
    refine X_isub d27 ?_
    refine X_aloadn 0 d28 rfl ?_
    refine X_getR d29 fg_x11_19 ?_
    refine X_iloadn 1 d32 rfl ?_
    refine X_iconst k_i_3 d33 ?_
    refine X_cVi (as := [vi a1, vi (3 : Int32)]) d34 cv_x11_146 ⟨by decide, by decide⟩ rfl (Nat.le_of_ble_eq_true rfl) (T7_ofRule M13 (mR M13 a0 10) a1 (3 : Int32)) (fun r34 M34 _ => ?_)
    refine X_iadd d37 ?_
    refine X_bipush k_b_40 d38 ?_
    refine X_icmp_gt (t := 47) d40 rfl (fun h40 => ?_) (fun h40 => ?_)
    · refine X_iconst k_i_0 d47 ?_
      exact X_zreturnc d48 rfl (by decide) rfl
    · refine X_iconst k_i_1 d43 ?_
      refine X_goto (t := 48) d44 rfl ?_
      exact X_zreturnc d48 rfl (by decide) rfl

theorem dd11_can_b29 : AllD (ib i11_can) [(29, .iinc 2 1, 3), (32, .goto (-28), 3)] := allD_of (by decide +kernel)
def f11_can_b29 (K4 : MM → Nat → Int32 → Int32 → Option (Int32 × MM)) (M : MM) (a0 : Nat) (a1 : Int32) (a2 : Int32) : Option (Int32 × MM) :=
  K4 M a0 a1 (a2 + (1 : Int32))
set_option maxRecDepth 4000 in
theorem T11_can_b29 {K4 : MM → Nat → Int32 → Int32 → Option (Int32 × MM)} (hK4 : ∀ (M : MM) (a0 : Nat) (a1 : Int32) (a2 : Int32), X Li i11_can 4 [(0, vr a0), (1, vi a1), (2, vi a2)] [] M (K4 M a0 a1 a2)) : ∀ (M : MM) (a0 : Nat) (a1 : Int32) (a2 : Int32), X Li i11_can 29 [(0, vr a0), (1, vi a1), (2, vi a2)] [] M (f11_can_b29 K4 M a0 a1 a2) := by
  obtain ⟨d29, d32, -⟩ := dd11_can_b29
  intro M a0 a1 a2
  unfold f11_can_b29
  refine X_inc (lv' := [(2, vi (a2 + (1 : Int32))), (0, vr a0), (1, vi a1)]) 2 d29 k_i_1 rfl (by decide) rfl ?_
  refine X_goto (t := 4) d32 rfl ?_
  refine X_sub [1, 2, 0] rfl ?_
  exact hK4 M a0 a1 (a2 + (1 : Int32))

theorem dd11_can_b4 : AllD (ib i11_can) [(4, .iload_n 2, 1), (5, .aload_n 0, 1), (6, .getfield 19, 3), (9, .getfield 118, 3), (12, .if_icmp .ge 23, 3), (15, .aload_n 0, 1), (16, .iload_n 2, 1), (17, .invokevirtual 182, 3), (20, .ifCond .eq 9, 3), (23, .iload_n 1, 1), (24, .iconst 1, 1), (25, .iload_n 2, 1), (26, .ishl, 1), (27, .ior, 1), (28, .istore_n 1, 1), (35, .iload_n 1, 1), (36, .ireturn, 1)] := allD_of (by decide +kernel)
def f11_can_b4_body (rc : MM → Nat → Int32 → Int32 → Option (Int32 × MM)) (M : MM) (a0 : Nat) (a1 : Int32) (a2 : Int32) : Option (Int32 × MM) :=
  aO M a0 11 <|
  aO M (mR M a0 10) 7 <|
  if (mI M (mR M a0 10) 6) ≤ a2 then
    some (a1, M)
  else
    aO M a0 11 <|
    cI (f11_canStep M a0 a2) fun r17 M17 =>
    if r17 = 0 then
      (f11_can_b29 rc) M17 a0 a1 a2
    else
      bW (a1 ||| ((1 : Int32) <<< (a2 &&& 31))) fun v28 =>
      (f11_can_b29 rc) M17 a0 v28 a2
def f11_can_b4 : MM → Nat → Int32 → Int32 → Option (Int32 × MM) := LP4 (f11_can_b4_body) FU
set_option maxRecDepth 4000 in
theorem T11_can_b4 : ∀ (M : MM) (a0 : Nat) (a1 : Int32) (a2 : Int32), X Li i11_can 4 [(0, vr a0), (1, vi a1), (2, vi a2)] [] M (f11_can_b4 M a0 a1 a2) := by
  obtain ⟨d4, d5, d6, d9, d12, d15, d16, d17, d20, d23, d24, d25, d26, d27, d28, d35, d36, -⟩ := dd11_can_b4
  refine LP4_i (P := fun M a0 a1 a2 o => X Li i11_can 4 [(0, vr a0), (1, vi a1), (2, vi a2)] [] M o) (fun _ _ _ _ => X_none) (fun rc ih M a0 a1 a2 => ?_) FU
  unfold f11_can_b4_body
  refine X_iloadn 2 d4 rfl ?_
  refine X_aloadn 0 d5 rfl ?_
  refine X_getR d6 fg_x11_19 ?_
  refine X_getI d9 fg_x11_118 ?_
  refine X_icmp_ge (t := 35) d12 rfl (fun h12 => ?_) (fun h12 => ?_)
  · refine X_iloadn 1 d35 rfl ?_
    exact X_ireturn d36 rfl rfl
  · refine X_aloadn 0 d15 rfl ?_
    refine X_iloadn 2 d16 rfl ?_
    refine X_cVi (as := [vi a2]) d17 cv_x11_182 ⟨by decide, by decide⟩ rfl (Nat.le_of_ble_eq_true rfl) (T11_canStep M a0 a2) (fun r17 M17 _ => ?_)
    refine X_if_eq (t := 29) d20 rfl (fun h20 => ?_) (fun h20 => ?_)
    · exact (T11_can_b29 ih) M17 a0 a1 a2
    · refine X_iloadn 1 d23 rfl ?_
      refine X_iconst k_i_1 d24 ?_
      refine X_iloadn 2 d25 rfl ?_
      refine X_ishl d26 ?_
      refine X_ior d27 ?_
      refine X_bWi fun v28 _ => ?_
      refine X_istoren (lv' := [(1, vi v28), (0, vr a0), (2, vi a2)]) d28 (by decide) rfl ?_
      refine X_sub [1, 0, 2] rfl ?_
      exact (T11_can_b29 ih) M17 a0 v28 a2

theorem dd11_can : AllD (ib i11_can) [(0, .iconst 0, 1), (1, .istore_n 1, 1), (2, .iconst 0, 1), (3, .istore_n 2, 1)] := allD_of (by decide +kernel)
def f11_can (M : MM) (a0 : Nat) : Option (Int32 × MM) :=
  f11_can_b4 M a0 (0 : Int32) (0 : Int32)
set_option maxRecDepth 4000 in
theorem T11_can (M : MM) (a0 : Nat) : ∀ q, f11_can M a0 = some q → Run i11_can [vr a0] M (Li q) := by
  obtain ⟨d0, d1, d2, d3, -⟩ := dd11_can
  refine Run_of_X (by decide) (Nat.le_of_ble_eq_true rfl) ?_
  show X Li i11_can 0 [(0, vr a0)] [] M _
  unfold f11_can
  refine X_iconst k_i_0 d0 ?_
  refine X_istoren (lv' := [(1, vi (0 : Int32)), (0, vr a0)]) d1 (by decide) rfl ?_
  refine X_iconst k_i_0 d2 ?_
  refine X_istoren (lv' := [(2, vi (0 : Int32)), (1, vi (0 : Int32)), (0, vr a0)]) d3 (by decide) rfl ?_
  refine X_sub [2, 1, 0] rfl ?_
  exact T11_can_b4 M a0 (0 : Int32) (0 : Int32)

theorem dd11_told : AllD (ib i11_told) [(0, .lload_n 0, 1), (1, .ldc2_w 216, 3), (4, .lcmp, 1), (5, .ifCond .lt 9, 3), (8, .ldc2_w 206, 3), (11, .goto 4, 3), (14, .lload_n 0, 1), (15, .lreturn, 1)] := allD_of (by decide +kernel)
def f11_told (M : MM) (a0 : Int64) : Option (Int64 × MM) :=
  if a0 < (1000000000000001 : Int64) then
    some (a0, M)
  else
    some ((-1 : Int64), M)
set_option maxRecDepth 4000 in
theorem T11_told (M : MM) (a0 : Int64) : ∀ q, f11_told M a0 = some q → Run i11_told [vl a0] M (Ll q) := by
  obtain ⟨d0, d1, d4, d5, d8, d11, d14, d15, -⟩ := dd11_told
  refine Run_of_X (by decide) (Nat.le_of_ble_eq_true rfl) ?_
  show X Ll i11_told 0 [(0, vl a0)] [] M _
  unfold f11_told
  refine X_lloadn 0 d0 rfl ?_
  refine X_ldc2 kc_x11_216 d1 ?_
  refine X_lif_lt (t := 14) d4 d5 rfl (fun h4 => ?_) (fun h4 => ?_)
  · refine X_lloadn 0 d14 rfl ?_
    exact X_lreturn d15 rfl rfl
  · refine X_ldc2 kc_x11_206 d8 ?_
    refine X_goto (t := 15) d11 rfl ?_
    exact X_lreturn d15 rfl rfl

theorem dd11_comes_b27 : AllD (ib i11_comes) [(27, .iconst 1, 1), (28, .goto 4, 3)] := allD_of (by decide +kernel)
def f11_comes_b27 (K32 : MM → Nat → Int32 → Int32 → Int32 → Option (Int64 × MM)) (M : MM) (a0 : Nat) (a1 : Int32) (a2 : Int32) : Option (Int64 × MM) :=
  K32 M a0 a1 a2 (1 : Int32)
set_option maxRecDepth 4000 in
theorem T11_comes_b27 {K32 : MM → Nat → Int32 → Int32 → Int32 → Option (Int64 × MM)} (hK32 : ∀ (M : MM) (a0 : Nat) (a1 : Int32) (a2 : Int32) (s0 : Int32), X Ll i11_comes 32 [(0, vr a0), (1, vi a1), (2, vi a2)] [vi s0] M (K32 M a0 a1 a2 s0)) : ∀ (M : MM) (a0 : Nat) (a1 : Int32) (a2 : Int32), X Ll i11_comes 27 [(0, vr a0), (1, vi a1), (2, vi a2)] [] M (f11_comes_b27 K32 M a0 a1 a2) := by
  obtain ⟨d27, d28, -⟩ := dd11_comes_b27
  intro M a0 a1 a2
  unfold f11_comes_b27
  refine X_iconst k_i_1 d27 ?_
  refine X_goto (t := 32) d28 rfl ?_
  exact hK32 M a0 a1 a2 (1 : Int32)

theorem dd11_comes_b31 : AllD (ib i11_comes) [(31, .iconst 0, 1)] := allD_of (by decide +kernel)
def f11_comes_b31 (K32 : MM → Nat → Int32 → Int32 → Int32 → Option (Int64 × MM)) (M : MM) (a0 : Nat) (a1 : Int32) (a2 : Int32) : Option (Int64 × MM) :=
  K32 M a0 a1 a2 (0 : Int32)
set_option maxRecDepth 4000 in
theorem T11_comes_b31 {K32 : MM → Nat → Int32 → Int32 → Int32 → Option (Int64 × MM)} (hK32 : ∀ (M : MM) (a0 : Nat) (a1 : Int32) (a2 : Int32) (s0 : Int32), X Ll i11_comes 32 [(0, vr a0), (1, vi a1), (2, vi a2)] [vi s0] M (K32 M a0 a1 a2 s0)) : ∀ (M : MM) (a0 : Nat) (a1 : Int32) (a2 : Int32), X Ll i11_comes 31 [(0, vr a0), (1, vi a1), (2, vi a2)] [] M (f11_comes_b31 K32 M a0 a1 a2) := by
  obtain ⟨d31, -⟩ := dd11_comes_b31
  intro M a0 a1 a2
  unfold f11_comes_b31
  refine X_iconst k_i_0 d31 ?_
  exact hK32 M a0 a1 a2 (0 : Int32)

theorem dd11_comes_b90 : AllD (ib i11_comes) [(90, .aload_n 0, 1), (91, .getfield 61, 3), (94, .aload_n 0, 1), (95, .getfield 19, 3), (98, .aload_n 0, 1), (99, .getfield 87, 3), (102, .invokevirtual 257, 3), (105, .aload_n 0, 1), (106, .getfield 61, 3), (109, .aload_n 0, 1), (110, .getfield 40, 3), (113, .invokevirtual 260, 3), (116, .invokestatic 212, 3), (119, .lreturn, 1)] := allD_of (by decide +kernel)
def f11_comes_b90 (M : MM) (a0 : Nat) : Option (Int64 × MM) :=
  aO M a0 11 <|
  aO M a0 11 <|
  aO M a0 11 <|
  aO M (mR M a0 6) 1 <|
  cV (f1_saturate M (mR M a0 6) (mR M a0 10) (mI M a0 12)) fun M102 =>
  aO M102 a0 11 <|
  aO M102 a0 11 <|
  aO M102 (mR M102 a0 6) 1 <|
  cJ (f1_of M102 (mR M102 a0 6) (mR M102 a0 2)) fun r113 M113 =>
  cJ (f11_told M113 r113) fun r116 M116 =>
  some (r116, M116)
set_option maxRecDepth 4000 in
theorem T11_comes_b90 : ∀ (M : MM) (a0 : Nat), X Ll i11_comes 90 [(0, vr a0)] [] M (f11_comes_b90 M a0) := by
  obtain ⟨d90, d91, d94, d95, d98, d99, d102, d105, d106, d109, d110, d113, d116, d119, -⟩ := dd11_comes_b90
  intro M a0
  unfold f11_comes_b90
  refine X_aloadn 0 d90 rfl ?_
  refine X_getR d91 fg_x11_61 ?_
  refine X_aloadn 0 d94 rfl ?_
  refine X_getR d95 fg_x11_19 ?_
  refine X_aloadn 0 d98 rfl ?_
  refine X_getI d99 fg_x11_87 ?_
  refine X_cVv (as := [vr (mR M a0 10), vi (mI M a0 12)]) d102 cv_x11_257 ⟨by decide, by decide⟩ rfl (Nat.le_of_ble_eq_true rfl) (T1_saturate M (mR M a0 6) (mR M a0 10) (mI M a0 12)) (fun M102 _ => ?_)
  refine X_aloadn 0 d105 rfl ?_
  refine X_getR d106 fg_x11_61 ?_
  refine X_aloadn 0 d109 rfl ?_
  refine X_getR d110 fg_x11_40 ?_
  refine X_cVl (as := [vr (mR M102 a0 2)]) d113 cv_x11_260 ⟨by decide, by decide⟩ rfl (Nat.le_of_ble_eq_true rfl) (T1_of M102 (mR M102 a0 6) (mR M102 a0 2)) (fun r113 M113 _ => ?_)
  refine X_cSl (as := [vl r113]) d116 cs_x11_212 ⟨by decide, by decide⟩ rfl (Nat.le_of_ble_eq_true rfl) (T11_told M113 r113) (fun r116 M116 _ => ?_)
  exact X_lreturn d119 rfl rfl

theorem dd11_comes_b32 : AllD (ib i11_comes) [(32, .istore_n 3, 1), (33, .aload_n 0, 1), (34, .getfield 40, 3), (37, .invokevirtual 168, 3), (40, .ifCond .ne 7, 3), (43, .iload_n 3, 1), (44, .ifCond .ne 7, 3), (47, .ldc2_w 206, 3), (50, .lreturn, 1), (51, .aload_n 0, 1), (52, .getfield 61, 3), (55, .aload_n 0, 1), (56, .getfield 19, 3), (59, .getfield 130, 3), (62, .invokevirtual 264, 3), (65, .iload_n 2, 1), (66, .iconst (-1), 1), (67, .if_icmp .ne 14, 3), (70, .aload_n 0, 1), (71, .getfield 61, 3), (74, .iload_n 1, 1), (75, .invokevirtual 267, 3), (78, .goto 12, 3), (81, .aload_n 0, 1), (82, .getfield 61, 3), (85, .iload_n 1, 1), (86, .iload_n 2, 1), (87, .invokevirtual 270, 3)] := allD_of (by decide +kernel)
def f11_comes_b32 (M : MM) (a0 : Nat) (a1 : Int32) (a2 : Int32) (s0 : Int32) : Option (Int64 × MM) :=
  aO M a0 11 <|
  aO M (mR M a0 2) 6 <|
  cI (f6_isNone M (mR M a0 2)) fun r37 M37 =>
  if r37 = 0 then
    if s0 = 0 then
      some ((-1 : Int64), M37)
    else
      aO M37 a0 11 <|
      aO M37 a0 11 <|
      aO M37 (mR M37 a0 10) 7 <|
      aO M37 (mR M37 a0 6) 1 <|
      cV (f1_start M37 (mR M37 a0 6) (mI M37 (mR M37 a0 10) 5)) fun M62 =>
      if a2 = (-1 : Int32) then
        aO M62 a0 11 <|
        aO M62 (mR M62 a0 6) 1 <|
        cV (f1_aimAtNothing M62 (mR M62 a0 6) a1) fun M75 =>
        f11_comes_b90 M75 a0
      else
        aO M62 a0 11 <|
        aO M62 (mR M62 a0 6) 1 <|
        cV (f1_aimAtHead M62 (mR M62 a0 6) a1 a2) fun M87 =>
        f11_comes_b90 M87 a0
  else
    some ((-1 : Int64), M37)
set_option maxRecDepth 4000 in
theorem T11_comes_b32 : ∀ (M : MM) (a0 : Nat) (a1 : Int32) (a2 : Int32) (s0 : Int32), X Ll i11_comes 32 [(0, vr a0), (1, vi a1), (2, vi a2)] [vi s0] M (f11_comes_b32 M a0 a1 a2 s0) := by
  obtain ⟨d32, d33, d34, d37, d40, d43, d44, d47, d50, d51, d52, d55, d56, d59, d62, d65, d66, d67, d70, d71, d74, d75, d78, d81, d82, d85, d86, d87, -⟩ := dd11_comes_b32
  intro M a0 a1 a2 s0
  unfold f11_comes_b32
  refine X_istoren (lv' := [(3, vi s0), (0, vr a0), (1, vi a1), (2, vi a2)]) d32 (by decide) rfl ?_
  refine X_aloadn 1 d33 rfl ?_
  refine X_getR d34 fg_x11_40 ?_
  refine X_cVi (as := []) d37 cv_x11_168 ⟨by decide, by decide⟩ rfl (Nat.le_of_ble_eq_true rfl) (T6_isNone M (mR M a0 2)) (fun r37 M37 _ => ?_)
  refine X_if_ne (t := 47) d40 rfl (fun h40 => ?_) (fun h40 => ?_)
  · refine X_iloadn 0 d43 rfl ?_
    refine X_if_ne (t := 51) d44 rfl (fun h44 => ?_) (fun h44 => ?_)
    · refine X_ldc2 kc_x11_206 d47 ?_
      exact X_lreturn d50 rfl rfl
    · refine X_aloadn 1 d51 rfl ?_
      refine X_getR d52 fg_x11_61 ?_
      refine X_aloadn 1 d55 rfl ?_
      refine X_getR d56 fg_x11_19 ?_
      refine X_getI d59 fg_x11_130 ?_
      refine X_cVv (as := [vi (mI M37 (mR M37 a0 10) 5)]) d62 cv_x11_264 ⟨by decide, by decide⟩ rfl (Nat.le_of_ble_eq_true rfl) (T1_start M37 (mR M37 a0 6) (mI M37 (mR M37 a0 10) 5)) (fun M62 _ => ?_)
      refine X_iloadn 3 d65 rfl ?_
      refine X_iconst k_i_m1 d66 ?_
      refine X_icmp_ne (t := 81) d67 rfl (fun h67 => ?_) (fun h67 => ?_)
      · refine X_aloadn 1 d70 rfl ?_
        refine X_getR d71 fg_x11_61 ?_
        refine X_iloadn 2 d74 rfl ?_
        refine X_cVv (as := [vi a1]) d75 cv_x11_267 ⟨by decide, by decide⟩ rfl (Nat.le_of_ble_eq_true rfl) (T1_aimAtNothing M62 (mR M62 a0 6) a1) (fun M75 _ => ?_)
        refine X_goto (t := 90) d78 rfl ?_
        refine X_sub [1] rfl ?_
        exact T11_comes_b90 M75 a0
      · refine X_aloadn 1 d81 rfl ?_
        refine X_getR d82 fg_x11_61 ?_
        refine X_iloadn 2 d85 rfl ?_
        refine X_iloadn 3 d86 rfl ?_
        refine X_cVv (as := [vi a1, vi a2]) d87 cv_x11_270 ⟨by decide, by decide⟩ rfl (Nat.le_of_ble_eq_true rfl) (T1_aimAtHead M62 (mR M62 a0 6) a1 a2) (fun M87 _ => ?_)
        refine X_sub [1] rfl ?_
        exact T11_comes_b90 M87 a0
  · refine X_ldc2 kc_x11_206 d47 ?_
    exact X_lreturn d50 rfl rfl

theorem dd11_comes : AllD (ib i11_comes) [(0, .aload_n 0, 1), (1, .getfield 19, 3), (4, .iload_n 1, 1), (5, .invokevirtual 231, 3), (8, .ifCond .eq 23, 3), (11, .iload_n 2, 1), (12, .iconst (-1), 1), (13, .if_icmp .eq 14, 3), (16, .aload_n 0, 1), (17, .getfield 19, 3), (20, .iload_n 2, 1), (21, .invokevirtual 234, 3), (24, .ifCond .eq 7, 3)] := allD_of (by decide +kernel)
def f11_comes (M : MM) (a0 : Nat) (a1 : Int32) (a2 : Int32) : Option (Int64 × MM) :=
  aO M a0 11 <|
  aO M (mR M a0 10) 7 <|
  cI (f7_hasState M (mR M a0 10) a1) fun r5 M5 =>
  if r5 = 0 then
    (f11_comes_b31 f11_comes_b32) M5 a0 a1 a2
  else
    if a2 = (-1 : Int32) then
      (f11_comes_b27 f11_comes_b32) M5 a0 a1 a2
    else
      aO M5 a0 11 <|
      aO M5 (mR M5 a0 10) 7 <|
      cI (f7_hasSign M5 (mR M5 a0 10) a2) fun r21 M21 =>
      if r21 = 0 then
        (f11_comes_b31 f11_comes_b32) M21 a0 a1 a2
      else
        (f11_comes_b27 f11_comes_b32) M21 a0 a1 a2
set_option maxRecDepth 4000 in
theorem T11_comes (M : MM) (a0 : Nat) (a1 : Int32) (a2 : Int32) : ∀ q, f11_comes M a0 a1 a2 = some q → Run i11_comes [vr a0, vi a1, vi a2] M (Ll q) := by
  obtain ⟨d0, d1, d4, d5, d8, d11, d12, d13, d16, d17, d20, d21, d24, -⟩ := dd11_comes
  refine Run_of_X (by decide) (Nat.le_of_ble_eq_true rfl) ?_
  show X Ll i11_comes 0 [(0, vr a0), (1, vi a1), (2, vi a2)] [] M _
  unfold f11_comes
  refine X_aloadn 0 d0 rfl ?_
  refine X_getR d1 fg_x11_19 ?_
  refine X_iloadn 1 d4 rfl ?_
  refine X_cVi (as := [vi a1]) d5 cv_x11_231 ⟨by decide, by decide⟩ rfl (Nat.le_of_ble_eq_true rfl) (T7_hasState M (mR M a0 10) a1) (fun r5 M5 _ => ?_)
  refine X_if_eq (t := 31) d8 rfl (fun h8 => ?_) (fun h8 => ?_)
  · exact (T11_comes_b31 T11_comes_b32) M5 a0 a1 a2
  · refine X_iloadn 2 d11 rfl ?_
    refine X_iconst k_i_m1 d12 ?_
    refine X_icmp_eq (t := 27) d13 rfl (fun h13 => ?_) (fun h13 => ?_)
    · exact (T11_comes_b27 T11_comes_b32) M5 a0 a1 a2
    · refine X_aloadn 0 d16 rfl ?_
      refine X_getR d17 fg_x11_19 ?_
      refine X_iloadn 2 d20 rfl ?_
      refine X_cVi (as := [vi a2]) d21 cv_x11_234 ⟨by decide, by decide⟩ rfl (Nat.le_of_ble_eq_true rfl) (T7_hasSign M5 (mR M5 a0 10) a2) (fun r21 M21 _ => ?_)
      refine X_if_eq (t := 31) d24 rfl (fun h24 => ?_) (fun h24 => ?_)
      · exact (T11_comes_b31 T11_comes_b32) M21 a0 a1 a2
      · exact (T11_comes_b27 T11_comes_b32) M21 a0 a1 a2

theorem dd11_settleCosts : AllD (ib i11_settleCosts) [(0, .aload_n 0, 1), (1, .getfield 91, 3), (4, .ifCond .ne 34, 3), (7, .aload_n 0, 1), (8, .getfield 57, 3), (11, .aload_n 0, 1), (12, .getfield 19, 3), (15, .invokevirtual 253, 3), (18, .aload_n 0, 1), (19, .getfield 57, 3), (22, .aload_n 0, 1), (23, .getfield 19, 3), (26, .aload_n 0, 1), (27, .getfield 87, 3), (30, .invokevirtual 257, 3), (33, .aload_n 0, 1), (34, .iconst 1, 1), (35, .putfield 91, 3), (38, .return_, 1)] := allD_of (by decide +kernel)
def f11_settleCosts (M : MM) (a0 : Nat) : Option MM :=
  aO M a0 11 <|
  if (mI M a0 13) = 0 then
    aO M a0 11 <|
    aO M a0 11 <|
    aO M (mR M a0 5) 1 <|
    cV (f1_startForGoals M (mR M a0 5) (mR M a0 10)) fun M15 =>
    aO M15 a0 11 <|
    aO M15 a0 11 <|
    aO M15 a0 11 <|
    aO M15 (mR M15 a0 5) 1 <|
    cV (f1_saturate M15 (mR M15 a0 5) (mR M15 a0 10) (mI M15 a0 12)) fun M30 =>
    aO M30 a0 11 <|
    bM (sI M30 a0 13 (1 : Int32)) fun M35 =>
    some M35
  else
    some M
set_option maxRecDepth 4000 in
theorem T11_settleCosts (M : MM) (a0 : Nat) : ∀ q, f11_settleCosts M a0 = some q → Run i11_settleCosts [vr a0] M (Lv q) := by
  obtain ⟨d0, d1, d4, d7, d8, d11, d12, d15, d18, d19, d22, d23, d26, d27, d30, d33, d34, d35, d38, -⟩ := dd11_settleCosts
  refine Run_of_X (by decide) (Nat.le_of_ble_eq_true rfl) ?_
  show X Lv i11_settleCosts 0 [(0, vr a0)] [] M _
  unfold f11_settleCosts
  refine X_aloadn 0 d0 rfl ?_
  refine X_getI d1 fg_x11_91 ?_
  refine X_if_ne (t := 38) d4 rfl (fun h4 => ?_) (fun h4 => ?_)
  · refine X_aloadn 0 d7 rfl ?_
    refine X_getR d8 fg_x11_57 ?_
    refine X_aloadn 0 d11 rfl ?_
    refine X_getR d12 fg_x11_19 ?_
    refine X_cVv (as := [vr (mR M a0 10)]) d15 cv_x11_253 ⟨by decide, by decide⟩ rfl (Nat.le_of_ble_eq_true rfl) (T1_startForGoals M (mR M a0 5) (mR M a0 10)) (fun M15 _ => ?_)
    refine X_aloadn 0 d18 rfl ?_
    refine X_getR d19 fg_x11_57 ?_
    refine X_aloadn 0 d22 rfl ?_
    refine X_getR d23 fg_x11_19 ?_
    refine X_aloadn 0 d26 rfl ?_
    refine X_getI d27 fg_x11_87 ?_
    refine X_cVv (as := [vr (mR M15 a0 10), vi (mI M15 a0 12)]) d30 cv_x11_257 ⟨by decide, by decide⟩ rfl (Nat.le_of_ble_eq_true rfl) (T1_saturate M15 (mR M15 a0 5) (mR M15 a0 10) (mI M15 a0 12)) (fun M30 _ => ?_)
    refine X_aloadn 0 d33 rfl ?_
    refine X_iconst k_i_1 d34 ?_
    refine X_putZc d35 fp_x11_91 (by decide) ?_
    refine X_bM fun M35 _ => ?_
    exact X_vreturn d38 rfl rfl
  · exact X_vreturn d38 rfl rfl

theorem dd11_costOfNow : AllD (ib i11_costOfNow) [(0, .aload_n 0, 1), (1, .invokevirtual 244, 3), (4, .aload_n 0, 1), (5, .getfield 57, 3), (8, .aload_n 0, 1), (9, .getfield 40, 3), (12, .invokevirtual 260, 3), (15, .lreturn, 1)] := allD_of (by decide +kernel)
def f11_costOfNow (M : MM) (a0 : Nat) : Option (Int64 × MM) :=
  aO M a0 11 <|
  cV (f11_settleCosts M a0) fun M1 =>
  aO M1 a0 11 <|
  aO M1 a0 11 <|
  aO M1 (mR M1 a0 5) 1 <|
  cJ (f1_of M1 (mR M1 a0 5) (mR M1 a0 2)) fun r12 M12 =>
  some (r12, M12)
set_option maxRecDepth 4000 in
theorem T11_costOfNow (M : MM) (a0 : Nat) : ∀ q, f11_costOfNow M a0 = some q → Run i11_costOfNow [vr a0] M (Ll q) := by
  obtain ⟨d0, d1, d4, d5, d8, d9, d12, d15, -⟩ := dd11_costOfNow
  refine Run_of_X (by decide) (Nat.le_of_ble_eq_true rfl) ?_
  show X Ll i11_costOfNow 0 [(0, vr a0)] [] M _
  unfold f11_costOfNow
  refine X_aloadn 0 d0 rfl ?_
  refine X_cVv (as := []) d1 cv_x11_244 ⟨by decide, by decide⟩ rfl (Nat.le_of_ble_eq_true rfl) (T11_settleCosts M a0) (fun M1 _ => ?_)
  refine X_aloadn 0 d4 rfl ?_
  refine X_getR d5 fg_x11_57 ?_
  refine X_aloadn 0 d8 rfl ?_
  refine X_getR d9 fg_x11_40 ?_
  refine X_cVl (as := [vr (mR M1 a0 2)]) d12 cv_x11_260 ⟨by decide, by decide⟩ rfl (Nat.le_of_ble_eq_true rfl) (T1_of M1 (mR M1 a0 5) (mR M1 a0 2)) (fun r12 M12 _ => ?_)
  exact X_lreturn d15 rfl rfl

theorem dd11_cost : AllD (ib i11_cost) [(0, .aload_n 0, 1), (1, .getfield 40, 3), (4, .invokevirtual 168, 3), (7, .ifCond .eq 9, 3), (10, .ldc2_w 206, 3), (13, .goto 10, 3), (16, .aload_n 0, 1), (17, .invokevirtual 208, 3), (20, .invokestatic 212, 3), (23, .lreturn, 1)] := allD_of (by decide +kernel)
def f11_cost (M : MM) (a0 : Nat) : Option (Int64 × MM) :=
  aO M a0 11 <|
  aO M (mR M a0 2) 6 <|
  cI (f6_isNone M (mR M a0 2)) fun r4 M4 =>
  if r4 = 0 then
    aO M4 a0 11 <|
    cJ (f11_costOfNow M4 a0) fun r17 M17 =>
    cJ (f11_told M17 r17) fun r20 M20 =>
    some (r20, M20)
  else
    some ((-1 : Int64), M4)
set_option maxRecDepth 4000 in
theorem T11_cost (M : MM) (a0 : Nat) : ∀ q, f11_cost M a0 = some q → Run i11_cost [vr a0] M (Ll q) := by
  obtain ⟨d0, d1, d4, d7, d10, d13, d16, d17, d20, d23, -⟩ := dd11_cost
  refine Run_of_X (by decide) (Nat.le_of_ble_eq_true rfl) ?_
  show X Ll i11_cost 0 [(0, vr a0)] [] M _
  unfold f11_cost
  refine X_aloadn 0 d0 rfl ?_
  refine X_getR d1 fg_x11_40 ?_
  refine X_cVi (as := []) d4 cv_x11_168 ⟨by decide, by decide⟩ rfl (Nat.le_of_ble_eq_true rfl) (T6_isNone M (mR M a0 2)) (fun r4 M4 _ => ?_)
  refine X_if_eq (t := 16) d7 rfl (fun h7 => ?_) (fun h7 => ?_)
  · refine X_aloadn 0 d16 rfl ?_
    refine X_cVl (as := []) d17 cv_x11_208 ⟨by decide, by decide⟩ rfl (Nat.le_of_ble_eq_true rfl) (T11_costOfNow M4 a0) (fun r17 M17 _ => ?_)
    refine X_cSl (as := [vl r17]) d20 cs_x11_212 ⟨by decide, by decide⟩ rfl (Nat.le_of_ble_eq_true rfl) (T11_told M17 r17) (fun r20 M20 _ => ?_)
    exact X_lreturn d23 rfl rfl
  · refine X_ldc2 kc_x11_206 d10 ?_
    refine X_goto (t := 23) d13 rfl ?_
    exact X_lreturn d23 rfl rfl

theorem dd11_end : AllD (ib i11_end) [(0, .iload_n 1, 1), (1, .ifCond .lt 14, 3), (4, .iload_n 1, 1), (5, .aload_n 0, 1), (6, .getfield 12, 3), (9, .getfield 98, 3), (12, .if_icmp .le 5, 3), (15, .iconst (-1), 1), (16, .ireturn, 1), (17, .aload_n 0, 1), (18, .getfield 12, 3), (21, .iload_n 1, 1), (22, .invokevirtual 104, 3), (25, .iload_n 1, 1), (26, .ireturn, 1)] := allD_of (by decide +kernel)
def f11_end (M : MM) (a0 : Nat) (a1 : Int32) : Option (Int32 × MM) :=
  if a1 < 0 then
    some ((-1 : Int32), M)
  else
    aO M a0 11 <|
    aO M (mR M a0 0) 9 <|
    if a1 ≤ (mI M (mR M a0 0) 2) then
      aO M a0 11 <|
      aO M (mR M a0 0) 9 <|
      cV (f9_cut M (mR M a0 0) a1) fun M22 =>
      some (a1, M22)
    else
      some ((-1 : Int32), M)
set_option maxRecDepth 4000 in
theorem T11_end (M : MM) (a0 : Nat) (a1 : Int32) : ∀ q, f11_end M a0 a1 = some q → Run i11_end [vr a0, vi a1] M (Li q) := by
  obtain ⟨d0, d1, d4, d5, d6, d9, d12, d15, d16, d17, d18, d21, d22, d25, d26, -⟩ := dd11_end
  refine Run_of_X (by decide) (Nat.le_of_ble_eq_true rfl) ?_
  show X Li i11_end 0 [(0, vr a0), (1, vi a1)] [] M _
  unfold f11_end
  refine X_iloadn 1 d0 rfl ?_
  refine X_if_lt (t := 15) d1 rfl (fun h1 => ?_) (fun h1 => ?_)
  · refine X_iconst k_i_m1 d15 ?_
    exact X_ireturn d16 rfl rfl
  · refine X_iloadn 1 d4 rfl ?_
    refine X_aloadn 0 d5 rfl ?_
    refine X_getR d6 fg_x11_12 ?_
    refine X_getI d9 fg_x11_98 ?_
    refine X_icmp_le (t := 17) d12 rfl (fun h12 => ?_) (fun h12 => ?_)
    · refine X_aloadn 0 d17 rfl ?_
      refine X_getR d18 fg_x11_12 ?_
      refine X_iloadn 1 d21 rfl ?_
      refine X_cVv (as := [vi a1]) d22 cv_x11_104 ⟨by decide, by decide⟩ rfl (Nat.le_of_ble_eq_true rfl) (T9_cut M (mR M a0 0) a1) (fun M22 _ => ?_)
      refine X_iloadn 1 d25 rfl ?_
      exact X_ireturn d26 rfl rfl
    · refine X_iconst k_i_m1 d15 ?_
      exact X_ireturn d16 rfl rfl

theorem dd11_settleHeads : AllD (ib i11_settleHeads) [(0, .aload_n 0, 1), (1, .invokevirtual 244, 3), (4, .aload_n 0, 1), (5, .getfield 76, 3), (8, .aload_n 0, 1), (9, .getfield 19, 3), (12, .aload_n 0, 1), (13, .getfield 87, 3), (16, .invokevirtual 345, 3), (19, .return_, 1)] := allD_of (by decide +kernel)
def f11_settleHeads (M : MM) (a0 : Nat) : Option MM :=
  aO M a0 11 <|
  cV (f11_settleCosts M a0) fun M1 =>
  aO M1 a0 11 <|
  aO M1 a0 11 <|
  aO M1 a0 11 <|
  aO M1 (mR M1 a0 8) 2 <|
  cV (f2_lookAt M1 (mR M1 a0 8) (mR M1 a0 10) (mI M1 a0 12)) fun M16 =>
  some M16
set_option maxRecDepth 4000 in
theorem T11_settleHeads (M : MM) (a0 : Nat) : ∀ q, f11_settleHeads M a0 = some q → Run i11_settleHeads [vr a0] M (Lv q) := by
  obtain ⟨d0, d1, d4, d5, d8, d9, d12, d13, d16, d19, -⟩ := dd11_settleHeads
  refine Run_of_X (by decide) (Nat.le_of_ble_eq_true rfl) ?_
  show X Lv i11_settleHeads 0 [(0, vr a0)] [] M _
  unfold f11_settleHeads
  refine X_aloadn 0 d0 rfl ?_
  refine X_cVv (as := []) d1 cv_x11_244 ⟨by decide, by decide⟩ rfl (Nat.le_of_ble_eq_true rfl) (T11_settleCosts M a0) (fun M1 _ => ?_)
  refine X_aloadn 0 d4 rfl ?_
  refine X_getR d5 fg_x11_76 ?_
  refine X_aloadn 0 d8 rfl ?_
  refine X_getR d9 fg_x11_19 ?_
  refine X_aloadn 0 d12 rfl ?_
  refine X_getI d13 fg_x11_87 ?_
  refine X_cVv (as := [vr (mR M1 a0 10), vi (mI M1 a0 12)]) d16 cv_x11_345 ⟨by decide, by decide⟩ rfl (Nat.le_of_ble_eq_true rfl) (T2_lookAt M1 (mR M1 a0 8) (mR M1 a0 10) (mI M1 a0 12)) (fun M16 _ => ?_)
  exact X_vreturn d19 rfl rfl

theorem dd11_endless : AllD (ib i11_endless) [(0, .aload_n 0, 1), (1, .getfield 40, 3), (4, .invokevirtual 168, 3), (7, .ifCond .eq 5, 3), (10, .iconst (-1), 1), (11, .ireturn, 1), (12, .aload_n 0, 1), (13, .invokevirtual 274, 3), (16, .aload_n 0, 1), (17, .getfield 76, 3), (20, .invokevirtual 286, 3), (23, .aload_n 0, 1), (24, .getfield 76, 3), (27, .aload_n 0, 1), (28, .getfield 40, 3), (31, .invokevirtual 293, 3), (34, .ifCond .eq 7, 3), (37, .iconst 1, 1), (38, .goto 4, 3), (41, .iconst 0, 1), (42, .ireturn, 1)] := allD_of (by decide +kernel)
def f11_endless (M : MM) (a0 : Nat) : Option (Int32 × MM) :=
  aO M a0 11 <|
  aO M (mR M a0 2) 6 <|
  cI (f6_isNone M (mR M a0 2)) fun r4 M4 =>
  if r4 = 0 then
    aO M4 a0 11 <|
    cV (f11_settleHeads M4 a0) fun M13 =>
    aO M13 a0 11 <|
    aO M13 (mR M13 a0 8) 2 <|
    cV (f2_findLasting M13 (mR M13 a0 8)) fun M20 =>
    aO M20 a0 11 <|
    aO M20 a0 11 <|
    aO M20 (mR M20 a0 8) 2 <|
    cI (f2_lastsFrom M20 (mR M20 a0 8) (mR M20 a0 2)) fun r31 M31 =>
    if r31 = 0 then
      some ((0 : Int32), M31)
    else
      some ((1 : Int32), M31)
  else
    some ((-1 : Int32), M4)
set_option maxRecDepth 4000 in
theorem T11_endless (M : MM) (a0 : Nat) : ∀ q, f11_endless M a0 = some q → Run i11_endless [vr a0] M (Li q) := by
  obtain ⟨d0, d1, d4, d7, d10, d11, d12, d13, d16, d17, d20, d23, d24, d27, d28, d31, d34, d37, d38, d41, d42, -⟩ := dd11_endless
  refine Run_of_X (by decide) (Nat.le_of_ble_eq_true rfl) ?_
  show X Li i11_endless 0 [(0, vr a0)] [] M _
  unfold f11_endless
  refine X_aloadn 0 d0 rfl ?_
  refine X_getR d1 fg_x11_40 ?_
  refine X_cVi (as := []) d4 cv_x11_168 ⟨by decide, by decide⟩ rfl (Nat.le_of_ble_eq_true rfl) (T6_isNone M (mR M a0 2)) (fun r4 M4 _ => ?_)
  refine X_if_eq (t := 12) d7 rfl (fun h7 => ?_) (fun h7 => ?_)
  · refine X_aloadn 0 d12 rfl ?_
    refine X_cVv (as := []) d13 cv_x11_274 ⟨by decide, by decide⟩ rfl (Nat.le_of_ble_eq_true rfl) (T11_settleHeads M4 a0) (fun M13 _ => ?_)
    refine X_aloadn 0 d16 rfl ?_
    refine X_getR d17 fg_x11_76 ?_
    refine X_cVv (as := []) d20 cv_x11_286 ⟨by decide, by decide⟩ rfl (Nat.le_of_ble_eq_true rfl) (T2_findLasting M13 (mR M13 a0 8)) (fun M20 _ => ?_)
    refine X_aloadn 0 d23 rfl ?_
    refine X_getR d24 fg_x11_76 ?_
    refine X_aloadn 0 d27 rfl ?_
    refine X_getR d28 fg_x11_40 ?_
    refine X_cVi (as := [vr (mR M20 a0 2)]) d31 cv_x11_293 ⟨by decide, by decide⟩ rfl (Nat.le_of_ble_eq_true rfl) (T2_lastsFrom M20 (mR M20 a0 8) (mR M20 a0 2)) (fun r31 M31 _ => ?_)
    refine X_if_eq (t := 41) d34 rfl (fun h34 => ?_) (fun h34 => ?_)
    · refine X_iconst k_i_0 d41 ?_
      exact X_ireturn d42 rfl rfl
    · refine X_iconst k_i_1 d37 ?_
      refine X_goto (t := 42) d38 rfl ?_
      exact X_ireturn d42 rfl rfl
  · refine X_iconst k_i_m1 d10 ?_
    exact X_ireturn d11 rfl rfl

theorem dd11_fault : AllD (ib i11_fault) [(0, .iload_n 1, 1), (1, .ifCond .ne 11, 3), (4, .aload_n 0, 1), (5, .getfield 31, 3), (8, .getfield 121, 3), (11, .ireturn, 1), (12, .iload_n 1, 1), (13, .iconst 1, 1), (14, .if_icmp .ne 13, 3), (17, .aload_n 0, 1), (18, .getfield 31, 3), (21, .getfield 124, 3), (24, .goto 4, 3), (27, .iconst (-1), 1), (28, .ireturn, 1)] := allD_of (by decide +kernel)
def f11_fault (M : MM) (a0 : Nat) (a1 : Int32) : Option (Int32 × MM) :=
  if a1 = 0 then
    aO M a0 11 <|
    aO M (mR M a0 1) 8 <|
    some (mI M (mR M a0 1) 2, M)
  else
    if a1 = (1 : Int32) then
      aO M a0 11 <|
      aO M (mR M a0 1) 8 <|
      some (mI M (mR M a0 1) 3, M)
    else
      some ((-1 : Int32), M)
set_option maxRecDepth 4000 in
theorem T11_fault (M : MM) (a0 : Nat) (a1 : Int32) : ∀ q, f11_fault M a0 a1 = some q → Run i11_fault [vr a0, vi a1] M (Li q) := by
  obtain ⟨d0, d1, d4, d5, d8, d11, d12, d13, d14, d17, d18, d21, d24, d27, d28, -⟩ := dd11_fault
  refine Run_of_X (by decide) (Nat.le_of_ble_eq_true rfl) ?_
  show X Li i11_fault 0 [(0, vr a0), (1, vi a1)] [] M _
  unfold f11_fault
  refine X_iloadn 1 d0 rfl ?_
  refine X_if_ne (t := 12) d1 rfl (fun h1 => ?_) (fun h1 => ?_)
  · refine X_aloadn 0 d4 rfl ?_
    refine X_getR d5 fg_x11_31 ?_
    refine X_getI d8 fg_x11_121 ?_
    exact X_ireturn d11 rfl rfl
  · refine X_iloadn 1 d12 rfl ?_
    refine X_iconst k_i_1 d13 ?_
    refine X_icmp_ne (t := 27) d14 rfl (fun h14 => ?_) (fun h14 => ?_)
    · refine X_aloadn 0 d17 rfl ?_
      refine X_getR d18 fg_x11_31 ?_
      refine X_getI d21 fg_x11_124 ?_
      refine X_goto (t := 28) d24 rfl ?_
      exact X_ireturn d28 rfl rfl
    · refine X_iconst k_i_m1 d27 ?_
      exact X_ireturn d28 rfl rfl

theorem dd11_feed : AllD (ib i11_feed) [(0, .aload_n 0, 1), (1, .getfield 12, 3), (4, .getfield 98, 3), (7, .bipush 20, 2), (9, .iadd, 1), (10, .sipush 800, 3), (13, .if_icmp .le 5, 3), (16, .iconst (-1), 1), (17, .ireturn, 1), (18, .aload_n 0, 1), (19, .getfield 12, 3), (22, .iload_n 1, 1), (23, .invokevirtual 101, 3), (26, .aload_n 0, 1), (27, .getfield 12, 3), (30, .iload_n 2, 1), (31, .invokevirtual 101, 3), (34, .aload_n 0, 1), (35, .getfield 12, 3), (38, .iload_n 3, 1), (39, .invokevirtual 101, 3), (42, .aload_n 0, 1), (43, .getfield 12, 3), (46, .iload 4, 2), (48, .invokevirtual 101, 3), (51, .aload_n 0, 1), (52, .getfield 12, 3), (55, .iload 5, 2), (57, .invokevirtual 101, 3), (60, .aload_n 0, 1), (61, .getfield 12, 3), (64, .getfield 98, 3), (67, .ireturn, 1)] := allD_of (by decide +kernel)
def f11_feed (M : MM) (a0 : Nat) (a1 : Int32) (a2 : Int32) (a3 : Int32) (a4 : Int32) (a5 : Int32) : Option (Int32 × MM) :=
  aO M a0 11 <|
  aO M (mR M a0 0) 9 <|
  if ((mI M (mR M a0 0) 2) + (20 : Int32)) ≤ (800 : Int32) then
    aO M a0 11 <|
    aO M (mR M a0 0) 9 <|
    cV (f9_addFour M (mR M a0 0) a1) fun M23 =>
    aO M23 a0 11 <|
    aO M23 (mR M23 a0 0) 9 <|
    cV (f9_addFour M23 (mR M23 a0 0) a2) fun M31 =>
    aO M31 a0 11 <|
    aO M31 (mR M31 a0 0) 9 <|
    cV (f9_addFour M31 (mR M31 a0 0) a3) fun M39 =>
    aO M39 a0 11 <|
    aO M39 (mR M39 a0 0) 9 <|
    cV (f9_addFour M39 (mR M39 a0 0) a4) fun M48 =>
    aO M48 a0 11 <|
    aO M48 (mR M48 a0 0) 9 <|
    cV (f9_addFour M48 (mR M48 a0 0) a5) fun M57 =>
    aO M57 a0 11 <|
    aO M57 (mR M57 a0 0) 9 <|
    some (mI M57 (mR M57 a0 0) 2, M57)
  else
    some ((-1 : Int32), M)
set_option maxRecDepth 4000 in
theorem T11_feed (M : MM) (a0 : Nat) (a1 : Int32) (a2 : Int32) (a3 : Int32) (a4 : Int32) (a5 : Int32) : ∀ q, f11_feed M a0 a1 a2 a3 a4 a5 = some q → Run i11_feed [vr a0, vi a1, vi a2, vi a3, vi a4, vi a5] M (Li q) := by
  obtain ⟨d0, d1, d4, d7, d9, d10, d13, d16, d17, d18, d19, d22, d23, d26, d27, d30, d31, d34, d35, d38, d39, d42, d43, d46, d48, d51, d52, d55, d57, d60, d61, d64, d67, -⟩ := dd11_feed
  refine Run_of_X (by decide) (Nat.le_of_ble_eq_true rfl) ?_
  show X Li i11_feed 0 [(0, vr a0), (1, vi a1), (2, vi a2), (3, vi a3), (4, vi a4), (5, vi a5)] [] M _
  unfold f11_feed
  refine X_aloadn 0 d0 rfl ?_
  refine X_getR d1 fg_x11_12 ?_
  refine X_getI d4 fg_x11_98 ?_
  refine X_bipush k_b_20 d7 ?_
  refine X_iadd d9 ?_
  refine X_sipush k_s_800 d10 ?_
  refine X_icmp_le (t := 18) d13 rfl (fun h13 => ?_) (fun h13 => ?_)
  · refine X_aloadn 0 d18 rfl ?_
    refine X_getR d19 fg_x11_12 ?_
    refine X_iloadn 1 d22 rfl ?_
    refine X_cVv (as := [vi a1]) d23 cv_x11_101 ⟨by decide, by decide⟩ rfl (Nat.le_of_ble_eq_true rfl) (T9_addFour M (mR M a0 0) a1) (fun M23 _ => ?_)
    refine X_aloadn 0 d26 rfl ?_
    refine X_getR d27 fg_x11_12 ?_
    refine X_iloadn 2 d30 rfl ?_
    refine X_cVv (as := [vi a2]) d31 cv_x11_101 ⟨by decide, by decide⟩ rfl (Nat.le_of_ble_eq_true rfl) (T9_addFour M23 (mR M23 a0 0) a2) (fun M31 _ => ?_)
    refine X_aloadn 0 d34 rfl ?_
    refine X_getR d35 fg_x11_12 ?_
    refine X_iloadn 3 d38 rfl ?_
    refine X_cVv (as := [vi a3]) d39 cv_x11_101 ⟨by decide, by decide⟩ rfl (Nat.le_of_ble_eq_true rfl) (T9_addFour M31 (mR M31 a0 0) a3) (fun M39 _ => ?_)
    refine X_aloadn 0 d42 rfl ?_
    refine X_getR d43 fg_x11_12 ?_
    refine X_iload 4 d46 rfl ?_
    refine X_cVv (as := [vi a4]) d48 cv_x11_101 ⟨by decide, by decide⟩ rfl (Nat.le_of_ble_eq_true rfl) (T9_addFour M39 (mR M39 a0 0) a4) (fun M48 _ => ?_)
    refine X_aloadn 0 d51 rfl ?_
    refine X_getR d52 fg_x11_12 ?_
    refine X_iload 5 d55 rfl ?_
    refine X_cVv (as := [vi a5]) d57 cv_x11_101 ⟨by decide, by decide⟩ rfl (Nat.le_of_ble_eq_true rfl) (T9_addFour M48 (mR M48 a0 0) a5) (fun M57 _ => ?_)
    refine X_aloadn 0 d60 rfl ?_
    refine X_getR d61 fg_x11_12 ?_
    refine X_getI d64 fg_x11_98 ?_
    exact X_ireturn d67 rfl rfl
  · refine X_iconst k_i_m1 d16 ?_
    exact X_ireturn d17 rfl rfl

theorem dd11_goal_b63 : AllD (ib i11_goal) [(63, .iconst 0, 1)] := allD_of (by decide +kernel)
def f11_goal_b63 (K64 : MM → Nat → Int32 → Int32 → Int32 → Option (Int32 × MM)) (M : MM) (a0 : Nat) (a1 : Int32) (a2 : Int32) : Option (Int32 × MM) :=
  K64 M a0 a1 a2 (0 : Int32)
set_option maxRecDepth 4000 in
theorem T11_goal_b63 {K64 : MM → Nat → Int32 → Int32 → Int32 → Option (Int32 × MM)} (hK64 : ∀ (M : MM) (a0 : Nat) (a1 : Int32) (a2 : Int32) (s0 : Int32), X Li i11_goal 64 [(0, vr a0), (1, vi a1), (2, vi a2)] [vi s0] M (K64 M a0 a1 a2 s0)) : ∀ (M : MM) (a0 : Nat) (a1 : Int32) (a2 : Int32), X Li i11_goal 63 [(0, vr a0), (1, vi a1), (2, vi a2)] [] M (f11_goal_b63 K64 M a0 a1 a2) := by
  obtain ⟨d63, -⟩ := dd11_goal_b63
  intro M a0 a1 a2
  unfold f11_goal_b63
  refine X_iconst k_i_0 d63 ?_
  exact hK64 M a0 a1 a2 (0 : Int32)

theorem dd11_goal_b64 : AllD (ib i11_goal) [(64, .istore_n 3, 1), (65, .iload_n 3, 1), (66, .ifCond .eq 20, 3), (69, .aload_n 0, 1), (70, .getfield 19, 3), (73, .iload_n 1, 1), (74, .iconst 3, 1), (75, .iload_n 2, 1), (76, .iadd, 1), (77, .bipush 10, 2), (79, .isub, 1), (80, .invokevirtual 150, 3), (83, .goto 5, 3), (86, .bipush (-2), 2), (88, .ireturn, 1)] := allD_of (by decide +kernel)
def f11_goal_b64 (M : MM) (a0 : Nat) (a1 : Int32) (a2 : Int32) (s0 : Int32) : Option (Int32 × MM) :=
  if s0 = 0 then
    some ((-2 : Int32), M)
  else
    aO M a0 11 <|
    aO M (mR M a0 10) 7 <|
    cI (f7_ofGoal M (mR M a0 10) a1 (((3 : Int32) + a2) - (10 : Int32))) fun r80 M80 =>
    some (r80, M80)
set_option maxRecDepth 4000 in
theorem T11_goal_b64 : ∀ (M : MM) (a0 : Nat) (a1 : Int32) (a2 : Int32) (s0 : Int32), X Li i11_goal 64 [(0, vr a0), (1, vi a1), (2, vi a2)] [vi s0] M (f11_goal_b64 M a0 a1 a2 s0) := by
  obtain ⟨d64, d65, d66, d69, d70, d73, d74, d75, d76, d77, d79, d80, d83, d86, d88, -⟩ := dd11_goal_b64
  intro M a0 a1 a2 s0
  unfold f11_goal_b64
  refine X_istoren (lv' := [(3, vi s0), (0, vr a0), (1, vi a1), (2, vi a2)]) d64 (by decide) rfl ?_
  refine X_iloadn 0 d65 rfl ?_
  refine X_if_eq (t := 86) d66 rfl (fun h66 => ?_) (fun h66 => ?_)
  · refine X_bipush k_b_m2 d86 ?_
    exact X_ireturn d88 rfl rfl
  · refine X_aloadn 1 d69 rfl ?_
    refine X_getR d70 fg_x11_19 ?_
    refine X_iloadn 2 d73 rfl ?_
    refine X_iconst k_i_3 d74 ?_
    refine X_iloadn 3 d75 rfl ?_
    refine X_iadd d76 ?_
    refine X_bipush k_b_10 d77 ?_
    refine X_isub d79 ?_
    refine X_cVi (as := [vi a1, vi (((3 : Int32) + a2) - (10 : Int32))]) d80 cv_x11_150 ⟨by decide, by decide⟩ rfl (Nat.le_of_ble_eq_true rfl) (T7_ofGoal M (mR M a0 10) a1 (((3 : Int32) + a2) - (10 : Int32))) (fun r80 M80 _ => ?_)
    refine X_goto (t := 88) d83 rfl ?_
    exact X_ireturn d88 rfl rfl

theorem dd11_goal_b37 : AllD (ib i11_goal) [(37, .iload_n 2, 1), (38, .bipush 10, 2), (40, .if_icmp .lt 23, 3), (43, .iload_n 2, 1), (44, .bipush 10, 2), (46, .isub, 1), (47, .aload_n 0, 1), (48, .getfield 19, 3), (51, .iload_n 1, 1), (52, .iconst 1, 1), (53, .invokevirtual 150, 3), (56, .if_icmp .ge 7, 3), (59, .iconst 1, 1), (60, .goto 4, 3)] := allD_of (by decide +kernel)
def f11_goal_b37 (M : MM) (a0 : Nat) (a1 : Int32) (a2 : Int32) : Option (Int32 × MM) :=
  if a2 < (10 : Int32) then
    (f11_goal_b63 f11_goal_b64) M a0 a1 a2
  else
    aO M a0 11 <|
    aO M (mR M a0 10) 7 <|
    cI (f7_ofGoal M (mR M a0 10) a1 (1 : Int32)) fun r53 M53 =>
    if r53 ≤ (a2 - (10 : Int32)) then
      (f11_goal_b63 f11_goal_b64) M53 a0 a1 a2
    else
      f11_goal_b64 M53 a0 a1 a2 (1 : Int32)
set_option maxRecDepth 4000 in
theorem T11_goal_b37 : ∀ (M : MM) (a0 : Nat) (a1 : Int32) (a2 : Int32), X Li i11_goal 37 [(0, vr a0), (1, vi a1), (2, vi a2)] [] M (f11_goal_b37 M a0 a1 a2) := by
  obtain ⟨d37, d38, d40, d43, d44, d46, d47, d48, d51, d52, d53, d56, d59, d60, -⟩ := dd11_goal_b37
  intro M a0 a1 a2
  unfold f11_goal_b37
  refine X_iloadn 2 d37 rfl ?_
  refine X_bipush k_b_10 d38 ?_
  refine X_icmp_lt (t := 63) d40 rfl (fun h40 => ?_) (fun h40 => ?_)
  · exact (T11_goal_b63 T11_goal_b64) M a0 a1 a2
  · refine X_iloadn 2 d43 rfl ?_
    refine X_bipush k_b_10 d44 ?_
    refine X_isub d46 ?_
    refine X_aloadn 0 d47 rfl ?_
    refine X_getR d48 fg_x11_19 ?_
    refine X_iloadn 1 d51 rfl ?_
    refine X_iconst k_i_1 d52 ?_
    refine X_cVi (as := [vi a1, vi (1 : Int32)]) d53 cv_x11_150 ⟨by decide, by decide⟩ rfl (Nat.le_of_ble_eq_true rfl) (T7_ofGoal M (mR M a0 10) a1 (1 : Int32)) (fun r53 M53 _ => ?_)
    refine X_icmp_ge (t := 63) d56 rfl (fun h56 => ?_) (fun h56 => ?_)
    · exact (T11_goal_b63 T11_goal_b64) M53 a0 a1 a2
    · refine X_iconst k_i_1 d59 ?_
      refine X_goto (t := 64) d60 rfl ?_
      exact T11_goal_b64 M53 a0 a1 a2 (1 : Int32)

theorem dd11_goal : AllD (ib i11_goal) [(0, .iload_n 1, 1), (1, .ifCond .lt 14, 3), (4, .iload_n 1, 1), (5, .aload_n 0, 1), (6, .getfield 19, 3), (9, .getfield 133, 3), (12, .if_icmp .lt 6, 3), (15, .bipush (-2), 2), (17, .ireturn, 1), (18, .iload_n 2, 1), (19, .ifCond .lt 18, 3), (22, .iload_n 2, 1), (23, .iconst 2, 1), (24, .if_icmp .gt 13, 3), (27, .aload_n 0, 1), (28, .getfield 19, 3), (31, .iload_n 1, 1), (32, .iload_n 2, 1), (33, .invokevirtual 150, 3), (36, .ireturn, 1)] := allD_of (by decide +kernel)
def f11_goal (M : MM) (a0 : Nat) (a1 : Int32) (a2 : Int32) : Option (Int32 × MM) :=
  if a1 < 0 then
    some ((-2 : Int32), M)
  else
    aO M a0 11 <|
    aO M (mR M a0 10) 7 <|
    if a1 < (mI M (mR M a0 10) 7) then
      if a2 < 0 then
        f11_goal_b37 M a0 a1 a2
      else
        if (2 : Int32) < a2 then
          f11_goal_b37 M a0 a1 a2
        else
          aO M a0 11 <|
          aO M (mR M a0 10) 7 <|
          cI (f7_ofGoal M (mR M a0 10) a1 a2) fun r33 M33 =>
          some (r33, M33)
    else
      some ((-2 : Int32), M)
set_option maxRecDepth 4000 in
theorem T11_goal (M : MM) (a0 : Nat) (a1 : Int32) (a2 : Int32) : ∀ q, f11_goal M a0 a1 a2 = some q → Run i11_goal [vr a0, vi a1, vi a2] M (Li q) := by
  obtain ⟨d0, d1, d4, d5, d6, d9, d12, d15, d17, d18, d19, d22, d23, d24, d27, d28, d31, d32, d33, d36, -⟩ := dd11_goal
  refine Run_of_X (by decide) (Nat.le_of_ble_eq_true rfl) ?_
  show X Li i11_goal 0 [(0, vr a0), (1, vi a1), (2, vi a2)] [] M _
  unfold f11_goal
  refine X_iloadn 1 d0 rfl ?_
  refine X_if_lt (t := 15) d1 rfl (fun h1 => ?_) (fun h1 => ?_)
  · refine X_bipush k_b_m2 d15 ?_
    exact X_ireturn d17 rfl rfl
  · refine X_iloadn 1 d4 rfl ?_
    refine X_aloadn 0 d5 rfl ?_
    refine X_getR d6 fg_x11_19 ?_
    refine X_getI d9 fg_x11_133 ?_
    refine X_icmp_lt (t := 18) d12 rfl (fun h12 => ?_) (fun h12 => ?_)
    · refine X_iloadn 2 d18 rfl ?_
      refine X_if_lt (t := 37) d19 rfl (fun h19 => ?_) (fun h19 => ?_)
      · exact T11_goal_b37 M a0 a1 a2
      · refine X_iloadn 2 d22 rfl ?_
        refine X_iconst k_i_2 d23 ?_
        refine X_icmp_gt (t := 37) d24 rfl (fun h24 => ?_) (fun h24 => ?_)
        · exact T11_goal_b37 M a0 a1 a2
        · refine X_aloadn 0 d27 rfl ?_
          refine X_getR d28 fg_x11_19 ?_
          refine X_iloadn 1 d31 rfl ?_
          refine X_iloadn 2 d32 rfl ?_
          refine X_cVi (as := [vi a1, vi a2]) d33 cv_x11_150 ⟨by decide, by decide⟩ rfl (Nat.le_of_ble_eq_true rfl) (T7_ofGoal M (mR M a0 10) a1 a2) (fun r33 M33 _ => ?_)
          exact X_ireturn d36 rfl rfl
    · refine X_bipush k_b_m2 d15 ?_
      exact X_ireturn d17 rfl rfl

theorem dd11_settleMachine_b38 : AllD (ib i11_settleMachine) [(38, .aload_n 0, 1), (39, .getfield 83, 3), (42, .iload_n 1, 1), (43, .invokevirtual 354, 3), (46, .return_, 1)] := allD_of (by decide +kernel)
def f11_settleMachine_b38 (M : MM) (a0 : Nat) (a1 : Int32) : Option MM :=
  aO M a0 11 <|
  aO M (mR M a0 9) 5 <|
  cV (f5_numberFrom M (mR M a0 9) a1) fun M43 =>
  some M43
set_option maxRecDepth 4000 in
theorem T11_settleMachine_b38 : ∀ (M : MM) (a0 : Nat) (a1 : Int32), X Lv i11_settleMachine 38 [(0, vr a0), (1, vi a1)] [] M (f11_settleMachine_b38 M a0 a1) := by
  obtain ⟨d38, d39, d42, d43, d46, -⟩ := dd11_settleMachine_b38
  intro M a0 a1
  unfold f11_settleMachine_b38
  refine X_aloadn 0 d38 rfl ?_
  refine X_getR d39 fg_x11_83 ?_
  refine X_iloadn 1 d42 rfl ?_
  refine X_cVv (as := [vi a1]) d43 cv_x11_354 ⟨by decide, by decide⟩ rfl (Nat.le_of_ble_eq_true rfl) (T5_numberFrom M (mR M a0 9) a1) (fun M43 _ => ?_)
  exact X_vreturn d46 rfl rfl

theorem dd11_settleMachine : AllD (ib i11_settleMachine) [(0, .aload_n 0, 1), (1, .invokevirtual 244, 3), (4, .aload_n 0, 1), (5, .getfield 95, 3), (8, .ifCond .ne 30, 3), (11, .aload_n 0, 1), (12, .getfield 83, 3), (15, .aload_n 0, 1), (16, .getfield 19, 3), (19, .aload_n 0, 1), (20, .getfield 57, 3), (23, .invokevirtual 348, 3), (26, .aload_n 0, 1), (27, .getfield 83, 3), (30, .invokevirtual 351, 3), (33, .aload_n 0, 1), (34, .iconst 1, 1), (35, .putfield 95, 3)] := allD_of (by decide +kernel)
def f11_settleMachine (M : MM) (a0 : Nat) (a1 : Int32) : Option MM :=
  aO M a0 11 <|
  cV (f11_settleCosts M a0) fun M1 =>
  aO M1 a0 11 <|
  if (mI M1 a0 14) = 0 then
    aO M1 a0 11 <|
    aO M1 a0 11 <|
    aO M1 a0 11 <|
    aO M1 (mR M1 a0 9) 5 <|
    cV (f5_build M1 (mR M1 a0 9) (mR M1 a0 10) (mR M1 a0 5)) fun M23 =>
    aO M23 a0 11 <|
    aO M23 (mR M23 a0 9) 5 <|
    cV (f5_sortOut M23 (mR M23 a0 9)) fun M30 =>
    aO M30 a0 11 <|
    bM (sI M30 a0 14 (1 : Int32)) fun M35 =>
    f11_settleMachine_b38 M35 a0 a1
  else
    f11_settleMachine_b38 M1 a0 a1
set_option maxRecDepth 4000 in
theorem T11_settleMachine (M : MM) (a0 : Nat) (a1 : Int32) : ∀ q, f11_settleMachine M a0 a1 = some q → Run i11_settleMachine [vr a0, vi a1] M (Lv q) := by
  obtain ⟨d0, d1, d4, d5, d8, d11, d12, d15, d16, d19, d20, d23, d26, d27, d30, d33, d34, d35, -⟩ := dd11_settleMachine
  refine Run_of_X (by decide) (Nat.le_of_ble_eq_true rfl) ?_
  show X Lv i11_settleMachine 0 [(0, vr a0), (1, vi a1)] [] M _
  unfold f11_settleMachine
  refine X_aloadn 0 d0 rfl ?_
  refine X_cVv (as := []) d1 cv_x11_244 ⟨by decide, by decide⟩ rfl (Nat.le_of_ble_eq_true rfl) (T11_settleCosts M a0) (fun M1 _ => ?_)
  refine X_aloadn 0 d4 rfl ?_
  refine X_getI d5 fg_x11_95 ?_
  refine X_if_ne (t := 38) d8 rfl (fun h8 => ?_) (fun h8 => ?_)
  · refine X_aloadn 0 d11 rfl ?_
    refine X_getR d12 fg_x11_83 ?_
    refine X_aloadn 0 d15 rfl ?_
    refine X_getR d16 fg_x11_19 ?_
    refine X_aloadn 0 d19 rfl ?_
    refine X_getR d20 fg_x11_57 ?_
    refine X_cVv (as := [vr (mR M1 a0 10), vr (mR M1 a0 5)]) d23 cv_x11_348 ⟨by decide, by decide⟩ rfl (Nat.le_of_ble_eq_true rfl) (T5_build M1 (mR M1 a0 9) (mR M1 a0 10) (mR M1 a0 5)) (fun M23 _ => ?_)
    refine X_aloadn 0 d26 rfl ?_
    refine X_getR d27 fg_x11_83 ?_
    refine X_cVv (as := []) d30 cv_x11_351 ⟨by decide, by decide⟩ rfl (Nat.le_of_ble_eq_true rfl) (T5_sortOut M23 (mR M23 a0 9)) (fun M30 _ => ?_)
    refine X_aloadn 0 d33 rfl ?_
    refine X_iconst k_i_1 d34 ?_
    refine X_putZc d35 fp_x11_95 (by decide) ?_
    refine X_bM fun M35 _ => ?_
    exact T11_settleMachine_b38 M35 a0 a1
  · exact T11_settleMachine_b38 M1 a0 a1

theorem dd11_good : AllD (ib i11_good) [(0, .aload_n 0, 1), (1, .getfield 19, 3), (4, .iload_n 1, 1), (5, .invokevirtual 231, 3), (8, .ifCond .ne 5, 3), (11, .iconst (-1), 1), (12, .ireturn, 1), (13, .aload_n 0, 1), (14, .iload_n 1, 1), (15, .invokevirtual 307, 3), (18, .aload_n 0, 1), (19, .getfield 83, 3), (22, .iload_n 2, 1), (23, .invokevirtual 313, 3), (26, .ifCond .ne 5, 3), (29, .iconst (-1), 1), (30, .ireturn, 1), (31, .aload_n 0, 1), (32, .getfield 83, 3), (35, .iload_n 2, 1), (36, .invokevirtual 319, 3), (39, .ifCond .eq 7, 3), (42, .iconst 1, 1), (43, .goto 4, 3), (46, .iconst 0, 1), (47, .ireturn, 1)] := allD_of (by decide +kernel)
def f11_good (M : MM) (a0 : Nat) (a1 : Int32) (a2 : Int32) : Option (Int32 × MM) :=
  aO M a0 11 <|
  aO M (mR M a0 10) 7 <|
  cI (f7_hasState M (mR M a0 10) a1) fun r5 M5 =>
  if r5 = 0 then
    some ((-1 : Int32), M5)
  else
    aO M5 a0 11 <|
    cV (f11_settleMachine M5 a0 a1) fun M15 =>
    aO M15 a0 11 <|
    aO M15 (mR M15 a0 9) 5 <|
    cI (f5_hasNode M15 (mR M15 a0 9) a2) fun r23 M23 =>
    if r23 = 0 then
      some ((-1 : Int32), M23)
    else
      aO M23 a0 11 <|
      aO M23 (mR M23 a0 9) 5 <|
      cI (f5_isGoodNode M23 (mR M23 a0 9) a2) fun r36 M36 =>
      if r36 = 0 then
        some ((0 : Int32), M36)
      else
        some ((1 : Int32), M36)
set_option maxRecDepth 4000 in
theorem T11_good (M : MM) (a0 : Nat) (a1 : Int32) (a2 : Int32) : ∀ q, f11_good M a0 a1 a2 = some q → Run i11_good [vr a0, vi a1, vi a2] M (Li q) := by
  obtain ⟨d0, d1, d4, d5, d8, d11, d12, d13, d14, d15, d18, d19, d22, d23, d26, d29, d30, d31, d32, d35, d36, d39, d42, d43, d46, d47, -⟩ := dd11_good
  refine Run_of_X (by decide) (Nat.le_of_ble_eq_true rfl) ?_
  show X Li i11_good 0 [(0, vr a0), (1, vi a1), (2, vi a2)] [] M _
  unfold f11_good
  refine X_aloadn 0 d0 rfl ?_
  refine X_getR d1 fg_x11_19 ?_
  refine X_iloadn 1 d4 rfl ?_
  refine X_cVi (as := [vi a1]) d5 cv_x11_231 ⟨by decide, by decide⟩ rfl (Nat.le_of_ble_eq_true rfl) (T7_hasState M (mR M a0 10) a1) (fun r5 M5 _ => ?_)
  refine X_if_ne (t := 13) d8 rfl (fun h8 => ?_) (fun h8 => ?_)
  · refine X_iconst k_i_m1 d11 ?_
    exact X_ireturn d12 rfl rfl
  · refine X_aloadn 0 d13 rfl ?_
    refine X_iloadn 1 d14 rfl ?_
    refine X_cVv (as := [vi a1]) d15 cv_x11_307 ⟨by decide, by decide⟩ rfl (Nat.le_of_ble_eq_true rfl) (T11_settleMachine M5 a0 a1) (fun M15 _ => ?_)
    refine X_aloadn 0 d18 rfl ?_
    refine X_getR d19 fg_x11_83 ?_
    refine X_iloadn 2 d22 rfl ?_
    refine X_cVi (as := [vi a2]) d23 cv_x11_313 ⟨by decide, by decide⟩ rfl (Nat.le_of_ble_eq_true rfl) (T5_hasNode M15 (mR M15 a0 9) a2) (fun r23 M23 _ => ?_)
    refine X_if_ne (t := 31) d26 rfl (fun h26 => ?_) (fun h26 => ?_)
    · refine X_iconst k_i_m1 d29 ?_
      exact X_ireturn d30 rfl rfl
    · refine X_aloadn 0 d31 rfl ?_
      refine X_getR d32 fg_x11_83 ?_
      refine X_iloadn 2 d35 rfl ?_
      refine X_cVi (as := [vi a2]) d36 cv_x11_319 ⟨by decide, by decide⟩ rfl (Nat.le_of_ble_eq_true rfl) (T5_isGoodNode M23 (mR M23 a0 9) a2) (fun r36 M36 _ => ?_)
      refine X_if_eq (t := 46) d39 rfl (fun h39 => ?_) (fun h39 => ?_)
      · refine X_iconst k_i_0 d46 ?_
        exact X_ireturn d47 rfl rfl
      · refine X_iconst k_i_1 d42 ?_
        refine X_goto (t := 47) d43 rfl ?_
        exact X_ireturn d47 rfl rfl

theorem dd11_height : AllD (ib i11_height) [(0, .aload_n 0, 1), (1, .getfield 40, 3), (4, .invokevirtual 168, 3), (7, .ifCond .eq 6, 3), (10, .bipush (-2), 2), (12, .ireturn, 1), (13, .aload_n 0, 1), (14, .invokevirtual 274, 3), (17, .aload_n 0, 1), (18, .getfield 76, 3), (21, .invokevirtual 277, 3), (24, .aload_n 0, 1), (25, .getfield 76, 3), (28, .aload_n 0, 1), (29, .getfield 40, 3), (32, .invokevirtual 280, 3), (35, .ireturn, 1)] := allD_of (by decide +kernel)
def f11_height (M : MM) (a0 : Nat) : Option (Int32 × MM) :=
  aO M a0 11 <|
  aO M (mR M a0 2) 6 <|
  cI (f6_isNone M (mR M a0 2)) fun r4 M4 =>
  if r4 = 0 then
    aO M4 a0 11 <|
    cV (f11_settleHeads M4 a0) fun M14 =>
    aO M14 a0 11 <|
    aO M14 (mR M14 a0 8) 2 <|
    cV (f2_findRises M14 (mR M14 a0 8)) fun M21 =>
    aO M21 a0 11 <|
    aO M21 a0 11 <|
    aO M21 (mR M21 a0 8) 2 <|
    cI (f2_highestFrom M21 (mR M21 a0 8) (mR M21 a0 2)) fun r32 M32 =>
    some (r32, M32)
  else
    some ((-2 : Int32), M4)
set_option maxRecDepth 4000 in
theorem T11_height (M : MM) (a0 : Nat) : ∀ q, f11_height M a0 = some q → Run i11_height [vr a0] M (Li q) := by
  obtain ⟨d0, d1, d4, d7, d10, d12, d13, d14, d17, d18, d21, d24, d25, d28, d29, d32, d35, -⟩ := dd11_height
  refine Run_of_X (by decide) (Nat.le_of_ble_eq_true rfl) ?_
  show X Li i11_height 0 [(0, vr a0)] [] M _
  unfold f11_height
  refine X_aloadn 0 d0 rfl ?_
  refine X_getR d1 fg_x11_40 ?_
  refine X_cVi (as := []) d4 cv_x11_168 ⟨by decide, by decide⟩ rfl (Nat.le_of_ble_eq_true rfl) (T6_isNone M (mR M a0 2)) (fun r4 M4 _ => ?_)
  refine X_if_eq (t := 13) d7 rfl (fun h7 => ?_) (fun h7 => ?_)
  · refine X_aloadn 0 d13 rfl ?_
    refine X_cVv (as := []) d14 cv_x11_274 ⟨by decide, by decide⟩ rfl (Nat.le_of_ble_eq_true rfl) (T11_settleHeads M4 a0) (fun M14 _ => ?_)
    refine X_aloadn 0 d17 rfl ?_
    refine X_getR d18 fg_x11_76 ?_
    refine X_cVv (as := []) d21 cv_x11_277 ⟨by decide, by decide⟩ rfl (Nat.le_of_ble_eq_true rfl) (T2_findRises M14 (mR M14 a0 8)) (fun M21 _ => ?_)
    refine X_aloadn 0 d24 rfl ?_
    refine X_getR d25 fg_x11_76 ?_
    refine X_aloadn 0 d28 rfl ?_
    refine X_getR d29 fg_x11_40 ?_
    refine X_cVi (as := [vr (mR M21 a0 2)]) d32 cv_x11_280 ⟨by decide, by decide⟩ rfl (Nat.le_of_ble_eq_true rfl) (T2_highestFrom M21 (mR M21 a0 8) (mR M21 a0 2)) (fun r32 M32 _ => ?_)
    exact X_ireturn d35 rfl rfl
  · refine X_bipush k_b_m2 d10 ?_
    exact X_ireturn d12 rfl rfl

theorem dd11_init : AllD (ib i11_init) [(0, .aload_n 0, 1), (1, .invokespecial 3, 3), (4, .aload_n 0, 1), (5, .new 9, 3), (8, .dup, 1), (9, .invokespecial 11, 3), (12, .putfield 12, 3), (15, .aload_n 0, 1), (16, .new 16, 3), (19, .dup, 1), (20, .invokespecial 18, 3), (23, .putfield 19, 3), (26, .aload_n 0, 1), (27, .new 16, 3), (30, .dup, 1), (31, .invokespecial 18, 3), (34, .putfield 23, 3), (37, .aload_n 0, 1), (38, .new 26, 3), (41, .dup, 1), (42, .aload_n 0, 1), (43, .getfield 12, 3), (46, .aload_n 0, 1), (47, .getfield 23, 3), (50, .invokespecial 28, 3), (53, .putfield 31, 3), (56, .aload_n 0, 1), (57, .new 35, 3), (60, .dup, 1), (61, .bipush 40, 2), (63, .invokespecial 37, 3), (66, .putfield 40, 3), (69, .aload_n 0, 1), (70, .new 35, 3), (73, .dup, 1), (74, .bipush 40, 2), (76, .invokespecial 37, 3), (79, .putfield 44, 3), (82, .aload_n 0, 1), (83, .new 47, 3), (86, .dup, 1), (87, .invokespecial 49, 3), (90, .putfield 50, 3), (93, .aload_n 0, 1), (94, .new 54, 3), (97, .dup, 1), (98, .sipush 140, 3), (101, .invokespecial 56, 3), (104, .putfield 57, 3), (107, .aload_n 0, 1), (108, .new 54, 3), (111, .dup, 1), (112, .bipush 40, 2), (114, .invokespecial 56, 3), (117, .putfield 61, 3), (120, .aload_n 0, 1), (121, .new 64, 3), (124, .dup, 1), (125, .invokespecial 66, 3), (128, .putfield 67, 3), (131, .aload_n 0, 1), (132, .new 71, 3), (135, .dup, 1), (136, .aload_n 0, 1), (137, .getfield 19, 3), (140, .aload_n 0, 1), (141, .getfield 57, 3), (144, .invokespecial 73, 3), (147, .putfield 76, 3), (150, .aload_n 0, 1), (151, .new 80, 3), (154, .dup, 1), (155, .invokespecial 82, 3), (158, .putfield 83, 3), (161, .aload_n 0, 1), (162, .iconst 0, 1), (163, .putfield 87, 3), (166, .aload_n 0, 1), (167, .iconst 0, 1), (168, .putfield 91, 3), (171, .aload_n 0, 1), (172, .iconst 0, 1), (173, .putfield 95, 3), (176, .return_, 1)] := allD_of (by decide +kernel)
def f11_init (M : MM) (a0 : Nat) : Option MM :=
  gd (a0 ≠ 0) <|
  bW (mz M) fun q5 =>
  bM (nw M 12 7) fun M5 =>
  gd (q5 ≠ 0) <|
  cV (f9_init M5 q5) fun M9 =>
  aO M9 a0 11 <|
  bM (sR M9 a0 0 q5) fun M12 =>
  bW (mz M12) fun q16 =>
  bM (nw M12 10 8) fun M16 =>
  gd (q16 ≠ 0) <|
  cV (f7_init M16 q16) fun M20 =>
  aO M20 a0 11 <|
  bM (sR M20 a0 10 q16) fun M23 =>
  bW (mz M23) fun q27 =>
  bM (nw M23 10 8) fun M27 =>
  gd (q27 ≠ 0) <|
  cV (f7_init M27 q27) fun M31 =>
  aO M31 a0 11 <|
  bM (sR M31 a0 11 q27) fun M34 =>
  bW (mz M34) fun q38 =>
  bM (nw M34 11 4) fun M38 =>
  aO M38 a0 11 <|
  aO M38 a0 11 <|
  gd (q38 ≠ 0) <|
  cV (f8_init M38 q38 (mR M38 a0 0) (mR M38 a0 11)) fun M50 =>
  aO M50 a0 11 <|
  bM (sR M50 a0 1 q38) fun M53 =>
  bW (mz M53) fun q57 =>
  bM (nw M53 9 4) fun M57 =>
  gd (q57 ≠ 0) <|
  cV (f6_init M57 q57 (40 : Int32)) fun M63 =>
  aO M63 a0 11 <|
  bM (sR M63 a0 2 q57) fun M66 =>
  bW (mz M66) fun q70 =>
  bM (nw M66 9 4) fun M70 =>
  gd (q70 ≠ 0) <|
  cV (f6_init M70 q70 (40 : Int32)) fun M76 =>
  aO M76 a0 11 <|
  bM (sR M76 a0 3 q70) fun M79 =>
  bW (mz M79) fun q83 =>
  bM (nw M79 3 3) fun M83 =>
  gd (q83 ≠ 0) <|
  cV (f0_init M83 q83) fun M87 =>
  aO M87 a0 11 <|
  bM (sR M87 a0 4 q83) fun M90 =>
  bW (mz M90) fun q94 =>
  bM (nw M90 4 2) fun M94 =>
  gd (q94 ≠ 0) <|
  cV (f1_init M94 q94 (140 : Int32)) fun M101 =>
  aO M101 a0 11 <|
  bM (sR M101 a0 5 q94) fun M104 =>
  bW (mz M104) fun q108 =>
  bM (nw M104 4 2) fun M108 =>
  gd (q108 ≠ 0) <|
  cV (f1_init M108 q108 (40 : Int32)) fun M114 =>
  aO M114 a0 11 <|
  bM (sR M114 a0 6 q108) fun M117 =>
  bW (mz M117) fun q121 =>
  bM (nw M117 13 4) fun M121 =>
  gd (q121 ≠ 0) <|
  cV (f10_init M121 q121) fun M125 =>
  aO M125 a0 11 <|
  bM (sR M125 a0 7 q121) fun M128 =>
  bW (mz M128) fun q132 =>
  bM (nw M128 5 9) fun M132 =>
  aO M132 a0 11 <|
  aO M132 a0 11 <|
  gd (q132 ≠ 0) <|
  cV (f2_init M132 q132 (mR M132 a0 10) (mR M132 a0 5)) fun M144 =>
  aO M144 a0 11 <|
  bM (sR M144 a0 8 q132) fun M147 =>
  bW (mz M147) fun q151 =>
  bM (nw M147 8 18) fun M151 =>
  gd (q151 ≠ 0) <|
  cV (f5_init M151 q151) fun M155 =>
  aO M155 a0 11 <|
  bM (sR M155 a0 9 q151) fun M158 =>
  aO M158 a0 11 <|
  bM (sI M158 a0 12 (0 : Int32)) fun M163 =>
  aO M163 a0 11 <|
  bM (sI M163 a0 13 (0 : Int32)) fun M168 =>
  aO M168 a0 11 <|
  bM (sI M168 a0 14 (0 : Int32)) fun M173 =>
  some M173
set_option maxRecDepth 4000 in
theorem T11_init (M : MM) (a0 : Nat) : ∀ q, f11_init M a0 = some q → Run i11_init [vr a0] M (Lv q) := by
  obtain ⟨d0, d1, d4, d5, d8, d9, d12, d15, d16, d19, d20, d23, d26, d27, d30, d31, d34, d37, d38, d41, d42, d43, d46, d47, d50, d53, d56, d57, d60, d61, d63, d66, d69, d70, d73, d74, d76, d79, d82, d83, d86, d87, d90, d93, d94, d97, d98, d101, d104, d107, d108, d111, d112, d114, d117, d120, d121, d124, d125, d128, d131, d132, d135, d136, d137, d140, d141, d144, d147, d150, d151, d154, d155, d158, d161, d162, d163, d166, d167, d168, d171, d172, d173, d176, -⟩ := dd11_init
  refine Run_of_X (by decide) (Nat.le_of_ble_eq_true rfl) ?_
  show X Lv i11_init 0 [(0, vr a0)] [] M _
  unfold f11_init
  refine X_aloadn 0 d0 rfl ?_
  refine X_objInit d1 oi_x11_3 (by decide) (Nat.le_of_ble_eq_true rfl) ?_
  refine X_aloadn 0 d4 rfl ?_
  refine X_new d5 nc_x11_9 ?_
  refine X_bWr fun q5 _ => ?_
  refine X_bM fun M5 _ => ?_
  refine X_dupr d8 ?_
  refine X_cNv (as := []) d9 cn_x11_11 ⟨by decide, by decide⟩ rfl (Nat.le_of_ble_eq_true rfl) (T9_init M5 q5) (fun M9 _ => ?_)
  refine X_putRF d12 fp_x11_12 (RefT.obj _) rfl rfl ?_
  refine X_bM fun M12 _ => ?_
  refine X_aloadn 0 d15 rfl ?_
  refine X_new d16 nc_x11_16 ?_
  refine X_bWr fun q16 _ => ?_
  refine X_bM fun M16 _ => ?_
  refine X_dupr d19 ?_
  refine X_cNv (as := []) d20 cn_x11_18 ⟨by decide, by decide⟩ rfl (Nat.le_of_ble_eq_true rfl) (T7_init M16 q16) (fun M20 _ => ?_)
  refine X_putR d23 fp_x11_19 (RefT.obj _) ?_
  refine X_bM fun M23 _ => ?_
  refine X_aloadn 0 d26 rfl ?_
  refine X_new d27 nc_x11_16 ?_
  refine X_bWr fun q27 _ => ?_
  refine X_bM fun M27 _ => ?_
  refine X_dupr d30 ?_
  refine X_cNv (as := []) d31 cn_x11_18 ⟨by decide, by decide⟩ rfl (Nat.le_of_ble_eq_true rfl) (T7_init M27 q27) (fun M31 _ => ?_)
  refine X_putR d34 fp_x11_23 (RefT.obj _) ?_
  refine X_bM fun M34 _ => ?_
  refine X_aloadn 0 d37 rfl ?_
  refine X_new d38 nc_x11_26 ?_
  refine X_bWr fun q38 _ => ?_
  refine X_bM fun M38 _ => ?_
  refine X_dupr d41 ?_
  refine X_aloadn 0 d42 rfl ?_
  refine X_getR d43 fg_x11_12 ?_
  refine X_aloadn 0 d46 rfl ?_
  refine X_getR d47 fg_x11_23 ?_
  refine X_cIv (as := [vr (mR M38 a0 0), vr (mR M38 a0 11)]) d50 ci_x11_28 ⟨by decide, by decide⟩ rfl (Nat.le_of_ble_eq_true rfl) (T8_init M38 q38 (mR M38 a0 0) (mR M38 a0 11)) (fun M50 _ => ?_)
  refine X_putRF d53 fp_x11_31 (RefT.obj _) rfl rfl ?_
  refine X_bM fun M53 _ => ?_
  refine X_aloadn 0 d56 rfl ?_
  refine X_new d57 nc_x11_35 ?_
  refine X_bWr fun q57 _ => ?_
  refine X_bM fun M57 _ => ?_
  refine X_dupr d60 ?_
  refine X_bipush k_b_40 d61 ?_
  refine X_cIv (as := [vi (40 : Int32)]) d63 ci_x11_37 ⟨by decide, by decide⟩ rfl (Nat.le_of_ble_eq_true rfl) (T6_init M57 q57 (40 : Int32)) (fun M63 _ => ?_)
  refine X_putRF d66 fp_x11_40 (RefT.obj _) rfl rfl ?_
  refine X_bM fun M66 _ => ?_
  refine X_aloadn 0 d69 rfl ?_
  refine X_new d70 nc_x11_35 ?_
  refine X_bWr fun q70 _ => ?_
  refine X_bM fun M70 _ => ?_
  refine X_dupr d73 ?_
  refine X_bipush k_b_40 d74 ?_
  refine X_cIv (as := [vi (40 : Int32)]) d76 ci_x11_37 ⟨by decide, by decide⟩ rfl (Nat.le_of_ble_eq_true rfl) (T6_init M70 q70 (40 : Int32)) (fun M76 _ => ?_)
  refine X_putRF d79 fp_x11_44 (RefT.obj _) rfl rfl ?_
  refine X_bM fun M79 _ => ?_
  refine X_aloadn 0 d82 rfl ?_
  refine X_new d83 nc_x11_47 ?_
  refine X_bWr fun q83 _ => ?_
  refine X_bM fun M83 _ => ?_
  refine X_dupr d86 ?_
  refine X_cNv (as := []) d87 cn_x11_49 ⟨by decide, by decide⟩ rfl (Nat.le_of_ble_eq_true rfl) (T0_init M83 q83) (fun M87 _ => ?_)
  refine X_putRF d90 fp_x11_50 (RefT.obj _) rfl rfl ?_
  refine X_bM fun M90 _ => ?_
  refine X_aloadn 0 d93 rfl ?_
  refine X_new d94 nc_x11_54 ?_
  refine X_bWr fun q94 _ => ?_
  refine X_bM fun M94 _ => ?_
  refine X_dupr d97 ?_
  refine X_sipush k_s_140 d98 ?_
  refine X_cIv (as := [vi (140 : Int32)]) d101 ci_x11_56 ⟨by decide, by decide⟩ rfl (Nat.le_of_ble_eq_true rfl) (T1_init M94 q94 (140 : Int32)) (fun M101 _ => ?_)
  refine X_putRF d104 fp_x11_57 (RefT.obj _) rfl rfl ?_
  refine X_bM fun M104 _ => ?_
  refine X_aloadn 0 d107 rfl ?_
  refine X_new d108 nc_x11_54 ?_
  refine X_bWr fun q108 _ => ?_
  refine X_bM fun M108 _ => ?_
  refine X_dupr d111 ?_
  refine X_bipush k_b_40 d112 ?_
  refine X_cIv (as := [vi (40 : Int32)]) d114 ci_x11_56 ⟨by decide, by decide⟩ rfl (Nat.le_of_ble_eq_true rfl) (T1_init M108 q108 (40 : Int32)) (fun M114 _ => ?_)
  refine X_putRF d117 fp_x11_61 (RefT.obj _) rfl rfl ?_
  refine X_bM fun M117 _ => ?_
  refine X_aloadn 0 d120 rfl ?_
  refine X_new d121 nc_x11_64 ?_
  refine X_bWr fun q121 _ => ?_
  refine X_bM fun M121 _ => ?_
  refine X_dupr d124 ?_
  refine X_cNv (as := []) d125 cn_x11_66 ⟨by decide, by decide⟩ rfl (Nat.le_of_ble_eq_true rfl) (T10_init M121 q121) (fun M125 _ => ?_)
  refine X_putRF d128 fp_x11_67 (RefT.obj _) rfl rfl ?_
  refine X_bM fun M128 _ => ?_
  refine X_aloadn 0 d131 rfl ?_
  refine X_new d132 nc_x11_71 ?_
  refine X_bWr fun q132 _ => ?_
  refine X_bM fun M132 _ => ?_
  refine X_dupr d135 ?_
  refine X_aloadn 0 d136 rfl ?_
  refine X_getR d137 fg_x11_19 ?_
  refine X_aloadn 0 d140 rfl ?_
  refine X_getR d141 fg_x11_57 ?_
  refine X_cIv (as := [vr (mR M132 a0 10), vr (mR M132 a0 5)]) d144 ci_x11_73 ⟨by decide, by decide⟩ rfl (Nat.le_of_ble_eq_true rfl) (T2_init M132 q132 (mR M132 a0 10) (mR M132 a0 5)) (fun M144 _ => ?_)
  refine X_putRF d147 fp_x11_76 (RefT.obj _) rfl rfl ?_
  refine X_bM fun M147 _ => ?_
  refine X_aloadn 0 d150 rfl ?_
  refine X_new d151 nc_x11_80 ?_
  refine X_bWr fun q151 _ => ?_
  refine X_bM fun M151 _ => ?_
  refine X_dupr d154 ?_
  refine X_cNv (as := []) d155 cn_x11_82 ⟨by decide, by decide⟩ rfl (Nat.le_of_ble_eq_true rfl) (T5_init M151 q151) (fun M155 _ => ?_)
  refine X_putRF d158 fp_x11_83 (RefT.obj _) rfl rfl ?_
  refine X_bM fun M158 _ => ?_
  refine X_aloadn 0 d161 rfl ?_
  refine X_iconst k_i_0 d162 ?_
  refine X_putI d163 fp_x11_87 ?_
  refine X_bM fun M163 _ => ?_
  refine X_aloadn 0 d166 rfl ?_
  refine X_iconst k_i_0 d167 ?_
  refine X_putZc d168 fp_x11_91 (by decide) ?_
  refine X_bM fun M168 _ => ?_
  refine X_aloadn 0 d171 rfl ?_
  refine X_iconst k_i_0 d172 ?_
  refine X_putZc d173 fp_x11_95 (by decide) ?_
  refine X_bM fun M173 _ => ?_
  exact X_vreturn d176 rfl rfl

theorem dd11_isAtGoal_b2 : AllD (ib i11_isAtGoal) [(2, .iload_n 1, 1), (3, .aload_n 0, 1), (4, .getfield 19, 3), (7, .getfield 133, 3), (10, .if_icmp .ge 26, 3), (13, .aload_n 0, 1), (14, .getfield 19, 3), (17, .iload_n 1, 1), (18, .aload_n 0, 1), (19, .getfield 40, 3), (22, .invokevirtual 338, 3), (25, .ifCond .eq 5, 3), (28, .iconst 1, 1), (29, .ireturn, 1), (30, .iinc 1 1, 3), (33, .goto (-31), 3), (36, .iconst 0, 1), (37, .ireturn, 1)] := allD_of (by decide +kernel)
def f11_isAtGoal_b2_body (rc : MM → Nat → Int32 → Option (Int32 × MM)) (M : MM) (a0 : Nat) (a1 : Int32) : Option (Int32 × MM) :=
  aO M a0 11 <|
  aO M (mR M a0 10) 7 <|
  if (mI M (mR M a0 10) 7) ≤ a1 then
    some ((0 : Int32), M)
  else
    aO M a0 11 <|
    aO M a0 11 <|
    aO M (mR M a0 10) 7 <|
    cI (f7_isAtGoal M (mR M a0 10) a1 (mR M a0 2)) fun r22 M22 =>
    if r22 = 0 then
      rc M22 a0 (a1 + (1 : Int32))
    else
      some ((1 : Int32), M22)
def f11_isAtGoal_b2 : MM → Nat → Int32 → Option (Int32 × MM) := LP3 (f11_isAtGoal_b2_body) FU
set_option maxRecDepth 4000 in
theorem T11_isAtGoal_b2 : ∀ (M : MM) (a0 : Nat) (a1 : Int32), X Li i11_isAtGoal 2 [(0, vr a0), (1, vi a1)] [] M (f11_isAtGoal_b2 M a0 a1) := by
  obtain ⟨d2, d3, d4, d7, d10, d13, d14, d17, d18, d19, d22, d25, d28, d29, d30, d33, d36, d37, -⟩ := dd11_isAtGoal_b2
  refine LP3_i (P := fun M a0 a1 o => X Li i11_isAtGoal 2 [(0, vr a0), (1, vi a1)] [] M o) (fun _ _ _ => X_none) (fun rc ih M a0 a1 => ?_) FU
  unfold f11_isAtGoal_b2_body
  refine X_iloadn 1 d2 rfl ?_
  refine X_aloadn 0 d3 rfl ?_
  refine X_getR d4 fg_x11_19 ?_
  refine X_getI d7 fg_x11_133 ?_
  refine X_icmp_ge (t := 36) d10 rfl (fun h10 => ?_) (fun h10 => ?_)
  · refine X_iconst k_i_0 d36 ?_
    exact X_zreturnc d37 rfl (by decide) rfl
  · refine X_aloadn 0 d13 rfl ?_
    refine X_getR d14 fg_x11_19 ?_
    refine X_iloadn 1 d17 rfl ?_
    refine X_aloadn 0 d18 rfl ?_
    refine X_getR d19 fg_x11_40 ?_
    refine X_cVi (as := [vi a1, vr (mR M a0 2)]) d22 cv_x11_338 ⟨by decide, by decide⟩ rfl (Nat.le_of_ble_eq_true rfl) (T7_isAtGoal M (mR M a0 10) a1 (mR M a0 2)) (fun r22 M22 _ => ?_)
    refine X_if_eq (t := 30) d25 rfl (fun h25 => ?_) (fun h25 => ?_)
    · refine X_inc (lv' := [(1, vi (a1 + (1 : Int32))), (0, vr a0)]) 1 d30 k_i_1 rfl (by decide) rfl ?_
      refine X_goto (t := 2) d33 rfl ?_
      refine X_sub [1, 0] rfl ?_
      exact ih M22 a0 (a1 + (1 : Int32))
    · refine X_iconst k_i_1 d28 ?_
      exact X_zreturnc d29 rfl (by decide) rfl

theorem dd11_isAtGoal : AllD (ib i11_isAtGoal) [(0, .iconst 0, 1), (1, .istore_n 1, 1)] := allD_of (by decide +kernel)
def f11_isAtGoal (M : MM) (a0 : Nat) : Option (Int32 × MM) :=
  f11_isAtGoal_b2 M a0 (0 : Int32)
set_option maxRecDepth 4000 in
theorem T11_isAtGoal (M : MM) (a0 : Nat) : ∀ q, f11_isAtGoal M a0 = some q → Run i11_isAtGoal [vr a0] M (Li q) := by
  obtain ⟨d0, d1, -⟩ := dd11_isAtGoal
  refine Run_of_X (by decide) (Nat.le_of_ble_eq_true rfl) ?_
  show X Li i11_isAtGoal 0 [(0, vr a0)] [] M _
  unfold f11_isAtGoal
  refine X_iconst k_i_0 d0 ?_
  refine X_istoren (lv' := [(1, vi (0 : Int32)), (0, vr a0)]) d1 (by decide) rfl ?_
  refine X_sub [1, 0] rfl ?_
  exact T11_isAtGoal_b2 M a0 (0 : Int32)

theorem dd11_isOut : AllD (ib i11_isOut) [(0, .aload_n 0, 1), (1, .getfield 87, 3), (4, .iload_n 1, 1), (5, .iushr, 1), (6, .iconst 1, 1), (7, .iand, 1), (8, .iconst 1, 1), (9, .if_icmp .ne 7, 3), (12, .iconst 1, 1), (13, .goto 4, 3), (16, .iconst 0, 1), (17, .ireturn, 1)] := allD_of (by decide +kernel)
def f11_isOut (M : MM) (a0 : Nat) (a1 : Int32) : Option (Int32 × MM) :=
  aO M a0 11 <|
  if ((ushr (mI M a0 12) a1) &&& (1 : Int32)) = (1 : Int32) then
    some ((1 : Int32), M)
  else
    some ((0 : Int32), M)
set_option maxRecDepth 4000 in
theorem T11_isOut (M : MM) (a0 : Nat) (a1 : Int32) : ∀ q, f11_isOut M a0 a1 = some q → Run i11_isOut [vr a0, vi a1] M (Li q) := by
  obtain ⟨d0, d1, d4, d5, d6, d7, d8, d9, d12, d13, d16, d17, -⟩ := dd11_isOut
  refine Run_of_X (by decide) (Nat.le_of_ble_eq_true rfl) ?_
  show X Li i11_isOut 0 [(0, vr a0), (1, vi a1)] [] M _
  unfold f11_isOut
  refine X_aloadn 0 d0 rfl ?_
  refine X_getI d1 fg_x11_87 ?_
  refine X_iloadn 1 d4 rfl ?_
  refine X_iushr d5 ?_
  refine X_iconst k_i_1 d6 ?_
  refine X_iand d7 ?_
  refine X_iconst k_i_1 d8 ?_
  refine X_icmp_ne (t := 16) d9 rfl (fun h9 => ?_) (fun h9 => ?_)
  · refine X_iconst k_i_1 d12 ?_
    refine X_goto (t := 17) d13 rfl ?_
    exact X_zreturnc d17 rfl (by decide) rfl
  · refine X_iconst k_i_0 d16 ?_
    exact X_zreturnc d17 rfl (by decide) rfl

theorem dd11_lasts : AllD (ib i11_lasts) [(0, .aload_n 0, 1), (1, .getfield 19, 3), (4, .iload_n 1, 1), (5, .invokevirtual 231, 3), (8, .ifCond .eq 14, 3), (11, .aload_n 0, 1), (12, .getfield 19, 3), (15, .iload_n 2, 1), (16, .invokevirtual 234, 3), (19, .ifCond .ne 13, 3), (32, .aload_n 0, 1), (33, .invokevirtual 274, 3), (36, .aload_n 0, 1), (37, .getfield 76, 3), (40, .invokevirtual 286, 3), (43, .aload_n 0, 1), (44, .getfield 76, 3), (47, .iload_n 1, 1), (48, .iload_n 2, 1), (49, .invokevirtual 289, 3), (52, .ifCond .eq 7, 3), (55, .iconst 1, 1), (56, .goto 4, 3), (59, .iconst 0, 1), (60, .ireturn, 1)] := allD_of (by decide +kernel)
def f11_lasts (M : MM) (a0 : Nat) (a1 : Int32) (a2 : Int32) : Option (Int32 × MM) :=
  aO M a0 11 <|
  aO M (mR M a0 10) 7 <|
  cI (f7_hasState M (mR M a0 10) a1) fun r5 M5 =>
  if r5 = 0 then
    none
  else
    aO M5 a0 11 <|
    aO M5 (mR M5 a0 10) 7 <|
    cI (f7_hasSign M5 (mR M5 a0 10) a2) fun r16 M16 =>
    if r16 = 0 then
      none
    else
      aO M16 a0 11 <|
      cV (f11_settleHeads M16 a0) fun M33 =>
      aO M33 a0 11 <|
      aO M33 (mR M33 a0 8) 2 <|
      cV (f2_findLasting M33 (mR M33 a0 8)) fun M40 =>
      aO M40 a0 11 <|
      aO M40 (mR M40 a0 8) 2 <|
      cI (f2_isLasting M40 (mR M40 a0 8) a1 a2) fun r49 M49 =>
      if r49 = 0 then
        some ((0 : Int32), M49)
      else
        some ((1 : Int32), M49)
set_option maxRecDepth 4000 in
theorem T11_lasts (M : MM) (a0 : Nat) (a1 : Int32) (a2 : Int32) : ∀ q, f11_lasts M a0 a1 a2 = some q → Run i11_lasts [vr a0, vi a1, vi a2] M (Li q) := by
  obtain ⟨d0, d1, d4, d5, d8, d11, d12, d15, d16, d19, d32, d33, d36, d37, d40, d43, d44, d47, d48, d49, d52, d55, d56, d59, d60, -⟩ := dd11_lasts
  refine Run_of_X (by decide) (Nat.le_of_ble_eq_true rfl) ?_
  show X Li i11_lasts 0 [(0, vr a0), (1, vi a1), (2, vi a2)] [] M _
  unfold f11_lasts
  refine X_aloadn 0 d0 rfl ?_
  refine X_getR d1 fg_x11_19 ?_
  refine X_iloadn 1 d4 rfl ?_
  refine X_cVi (as := [vi a1]) d5 cv_x11_231 ⟨by decide, by decide⟩ rfl (Nat.le_of_ble_eq_true rfl) (T7_hasState M (mR M a0 10) a1) (fun r5 M5 _ => ?_)
  refine X_if_eq (t := 22) d8 rfl (fun h8 => ?_) (fun h8 => ?_)
  · exact X_none
  · refine X_aloadn 0 d11 rfl ?_
    refine X_getR d12 fg_x11_19 ?_
    refine X_iloadn 2 d15 rfl ?_
    refine X_cVi (as := [vi a2]) d16 cv_x11_234 ⟨by decide, by decide⟩ rfl (Nat.le_of_ble_eq_true rfl) (T7_hasSign M5 (mR M5 a0 10) a2) (fun r16 M16 _ => ?_)
    refine X_if_ne (t := 32) d19 rfl (fun h19 => ?_) (fun h19 => ?_)
    · exact X_none
    · refine X_aloadn 0 d32 rfl ?_
      refine X_cVv (as := []) d33 cv_x11_274 ⟨by decide, by decide⟩ rfl (Nat.le_of_ble_eq_true rfl) (T11_settleHeads M16 a0) (fun M33 _ => ?_)
      refine X_aloadn 0 d36 rfl ?_
      refine X_getR d37 fg_x11_76 ?_
      refine X_cVv (as := []) d40 cv_x11_286 ⟨by decide, by decide⟩ rfl (Nat.le_of_ble_eq_true rfl) (T2_findLasting M33 (mR M33 a0 8)) (fun M40 _ => ?_)
      refine X_aloadn 0 d43 rfl ?_
      refine X_getR d44 fg_x11_76 ?_
      refine X_iloadn 1 d47 rfl ?_
      refine X_iloadn 2 d48 rfl ?_
      refine X_cVi (as := [vi a1, vi a2]) d49 cv_x11_289 ⟨by decide, by decide⟩ rfl (Nat.le_of_ble_eq_true rfl) (T2_isLasting M40 (mR M40 a0 8) a1 a2) (fun r49 M49 _ => ?_)
      refine X_if_eq (t := 59) d52 rfl (fun h52 => ?_) (fun h52 => ?_)
      · refine X_iconst k_i_0 d59 ?_
        exact X_ireturn d60 rfl rfl
      · refine X_iconst k_i_1 d55 ?_
        refine X_goto (t := 60) d56 rfl ?_
        exact X_ireturn d60 rfl rfl

theorem dd11_longest : AllD (ib i11_longest) [(0, .aload_n 0, 1), (1, .getfield 40, 3), (4, .invokevirtual 168, 3), (7, .ifCond .eq 7, 3), (10, .ldc2_w 251, 3), (13, .lreturn, 1), (14, .aload_n 0, 1), (15, .invokevirtual 274, 3), (18, .aload_n 0, 1), (19, .getfield 76, 3), (22, .invokevirtual 286, 3), (25, .aload_n 0, 1), (26, .getfield 76, 3), (29, .aload_n 0, 1), (30, .getfield 40, 3), (33, .invokevirtual 293, 3), (36, .ifCond .eq 7, 3), (39, .ldc2_w 206, 3), (42, .lreturn, 1), (43, .aload_n 0, 1), (44, .getfield 76, 3), (47, .invokevirtual 297, 3), (50, .aload_n 0, 1), (51, .getfield 76, 3), (54, .aload_n 0, 1), (55, .getfield 40, 3), (58, .invokevirtual 300, 3), (61, .lreturn, 1)] := allD_of (by decide +kernel)
def f11_longest (M : MM) (a0 : Nat) : Option (Int64 × MM) :=
  aO M a0 11 <|
  aO M (mR M a0 2) 6 <|
  cI (f6_isNone M (mR M a0 2)) fun r4 M4 =>
  if r4 = 0 then
    aO M4 a0 11 <|
    cV (f11_settleHeads M4 a0) fun M15 =>
    aO M15 a0 11 <|
    aO M15 (mR M15 a0 8) 2 <|
    cV (f2_findLasting M15 (mR M15 a0 8)) fun M22 =>
    aO M22 a0 11 <|
    aO M22 a0 11 <|
    aO M22 (mR M22 a0 8) 2 <|
    cI (f2_lastsFrom M22 (mR M22 a0 8) (mR M22 a0 2)) fun r33 M33 =>
    if r33 = 0 then
      aO M33 a0 11 <|
      aO M33 (mR M33 a0 8) 2 <|
      cV (f2_findMostSteps M33 (mR M33 a0 8)) fun M47 =>
      aO M47 a0 11 <|
      aO M47 a0 11 <|
      aO M47 (mR M47 a0 8) 2 <|
      cJ (f2_mostStepsFrom M47 (mR M47 a0 8) (mR M47 a0 2)) fun r58 M58 =>
      some (r58, M58)
    else
      some ((-1 : Int64), M33)
  else
    some ((-2 : Int64), M4)
set_option maxRecDepth 4000 in
theorem T11_longest (M : MM) (a0 : Nat) : ∀ q, f11_longest M a0 = some q → Run i11_longest [vr a0] M (Ll q) := by
  obtain ⟨d0, d1, d4, d7, d10, d13, d14, d15, d18, d19, d22, d25, d26, d29, d30, d33, d36, d39, d42, d43, d44, d47, d50, d51, d54, d55, d58, d61, -⟩ := dd11_longest
  refine Run_of_X (by decide) (Nat.le_of_ble_eq_true rfl) ?_
  show X Ll i11_longest 0 [(0, vr a0)] [] M _
  unfold f11_longest
  refine X_aloadn 0 d0 rfl ?_
  refine X_getR d1 fg_x11_40 ?_
  refine X_cVi (as := []) d4 cv_x11_168 ⟨by decide, by decide⟩ rfl (Nat.le_of_ble_eq_true rfl) (T6_isNone M (mR M a0 2)) (fun r4 M4 _ => ?_)
  refine X_if_eq (t := 14) d7 rfl (fun h7 => ?_) (fun h7 => ?_)
  · refine X_aloadn 0 d14 rfl ?_
    refine X_cVv (as := []) d15 cv_x11_274 ⟨by decide, by decide⟩ rfl (Nat.le_of_ble_eq_true rfl) (T11_settleHeads M4 a0) (fun M15 _ => ?_)
    refine X_aloadn 0 d18 rfl ?_
    refine X_getR d19 fg_x11_76 ?_
    refine X_cVv (as := []) d22 cv_x11_286 ⟨by decide, by decide⟩ rfl (Nat.le_of_ble_eq_true rfl) (T2_findLasting M15 (mR M15 a0 8)) (fun M22 _ => ?_)
    refine X_aloadn 0 d25 rfl ?_
    refine X_getR d26 fg_x11_76 ?_
    refine X_aloadn 0 d29 rfl ?_
    refine X_getR d30 fg_x11_40 ?_
    refine X_cVi (as := [vr (mR M22 a0 2)]) d33 cv_x11_293 ⟨by decide, by decide⟩ rfl (Nat.le_of_ble_eq_true rfl) (T2_lastsFrom M22 (mR M22 a0 8) (mR M22 a0 2)) (fun r33 M33 _ => ?_)
    refine X_if_eq (t := 43) d36 rfl (fun h36 => ?_) (fun h36 => ?_)
    · refine X_aloadn 0 d43 rfl ?_
      refine X_getR d44 fg_x11_76 ?_
      refine X_cVv (as := []) d47 cv_x11_297 ⟨by decide, by decide⟩ rfl (Nat.le_of_ble_eq_true rfl) (T2_findMostSteps M33 (mR M33 a0 8)) (fun M47 _ => ?_)
      refine X_aloadn 0 d50 rfl ?_
      refine X_getR d51 fg_x11_76 ?_
      refine X_aloadn 0 d54 rfl ?_
      refine X_getR d55 fg_x11_40 ?_
      refine X_cVl (as := [vr (mR M47 a0 2)]) d58 cv_x11_300 ⟨by decide, by decide⟩ rfl (Nat.le_of_ble_eq_true rfl) (T2_mostStepsFrom M47 (mR M47 a0 8) (mR M47 a0 2)) (fun r58 M58 _ => ?_)
      exact X_lreturn d61 rfl rfl
    · refine X_ldc2 kc_x11_206 d39 ?_
      exact X_lreturn d42 rfl rfl
  · refine X_ldc2 kc_x11_251 d10 ?_
    exact X_lreturn d13 rfl rfl

theorem dd11_machine : AllD (ib i11_machine) [(0, .aload_n 0, 1), (1, .getfield 19, 3), (4, .iload_n 1, 1), (5, .invokevirtual 231, 3), (8, .ifCond .ne 5, 3), (11, .iconst (-1), 1), (12, .ireturn, 1), (13, .aload_n 0, 1), (14, .iload_n 1, 1), (15, .invokevirtual 307, 3), (18, .aload_n 0, 1), (19, .getfield 83, 3), (22, .getfield 310, 3), (25, .ireturn, 1)] := allD_of (by decide +kernel)
def f11_machine (M : MM) (a0 : Nat) (a1 : Int32) : Option (Int32 × MM) :=
  aO M a0 11 <|
  aO M (mR M a0 10) 7 <|
  cI (f7_hasState M (mR M a0 10) a1) fun r5 M5 =>
  if r5 = 0 then
    some ((-1 : Int32), M5)
  else
    aO M5 a0 11 <|
    cV (f11_settleMachine M5 a0 a1) fun M15 =>
    aO M15 a0 11 <|
    aO M15 (mR M15 a0 9) 5 <|
    some (mI M15 (mR M15 a0 9) 17, M15)
set_option maxRecDepth 4000 in
theorem T11_machine (M : MM) (a0 : Nat) (a1 : Int32) : ∀ q, f11_machine M a0 a1 = some q → Run i11_machine [vr a0, vi a1] M (Li q) := by
  obtain ⟨d0, d1, d4, d5, d8, d11, d12, d13, d14, d15, d18, d19, d22, d25, -⟩ := dd11_machine
  refine Run_of_X (by decide) (Nat.le_of_ble_eq_true rfl) ?_
  show X Li i11_machine 0 [(0, vr a0), (1, vi a1)] [] M _
  unfold f11_machine
  refine X_aloadn 0 d0 rfl ?_
  refine X_getR d1 fg_x11_19 ?_
  refine X_iloadn 1 d4 rfl ?_
  refine X_cVi (as := [vi a1]) d5 cv_x11_231 ⟨by decide, by decide⟩ rfl (Nat.le_of_ble_eq_true rfl) (T7_hasState M (mR M a0 10) a1) (fun r5 M5 _ => ?_)
  refine X_if_ne (t := 13) d8 rfl (fun h8 => ?_) (fun h8 => ?_)
  · refine X_iconst k_i_m1 d11 ?_
    exact X_ireturn d12 rfl rfl
  · refine X_aloadn 0 d13 rfl ?_
    refine X_iloadn 1 d14 rfl ?_
    refine X_cVv (as := [vi a1]) d15 cv_x11_307 ⟨by decide, by decide⟩ rfl (Nat.le_of_ble_eq_true rfl) (T11_settleMachine M5 a0 a1) (fun M15 _ => ?_)
    refine X_aloadn 0 d18 rfl ?_
    refine X_getR d19 fg_x11_83 ?_
    refine X_getI d22 fg_x11_310 ?_
    exact X_ireturn d25 rfl rfl

theorem dd11_matters : AllD (ib i11_matters) [(0, .aload_n 0, 1), (1, .getfield 40, 3), (4, .invokevirtual 168, 3), (7, .ifCond .ne 22, 3), (10, .aload_n 0, 1), (11, .getfield 19, 3), (14, .iload_n 1, 1), (15, .invokevirtual 139, 3), (18, .ifCond .eq 11, 3), (21, .aload_n 0, 1), (22, .iload_n 1, 1), (23, .invokevirtual 143, 3), (26, .ifCond .eq 7, 3), (29, .ldc2_w 251, 3), (32, .lreturn, 1), (33, .aload_n 0, 1), (34, .invokevirtual 208, 3), (37, .lstore_n 2, 1), (38, .lload_n 2, 1), (39, .ldc2_w 216, 3), (42, .lcmp, 1), (43, .ifCond .lt 7, 3), (46, .ldc2_w 251, 3), (49, .lreturn, 1), (50, .aload_n 0, 1), (51, .getfield 61, 3), (54, .aload_n 0, 1), (55, .getfield 19, 3), (58, .invokevirtual 253, 3), (61, .aload_n 0, 1), (62, .getfield 61, 3), (65, .aload_n 0, 1), (66, .getfield 19, 3), (69, .aload_n 0, 1), (70, .getfield 87, 3), (73, .iconst 1, 1), (74, .iload_n 1, 1), (75, .ishl, 1), (76, .ior, 1), (77, .invokevirtual 257, 3), (80, .aload_n 0, 1), (81, .getfield 61, 3), (84, .aload_n 0, 1), (85, .getfield 40, 3), (88, .invokevirtual 260, 3), (91, .lstore 4, 2), (93, .lload 4, 2), (95, .ldc2_w 216, 3), (98, .lcmp, 1), (99, .ifCond .lt 9, 3), (102, .ldc2_w 206, 3), (105, .goto 7, 3), (108, .lload 4, 2), (110, .lload_n 2, 1), (111, .lsub, 1), (112, .lreturn, 1)] := allD_of (by decide +kernel)
def f11_matters (M : MM) (a0 : Nat) (a1 : Int32) : Option (Int64 × MM) :=
  aO M a0 11 <|
  aO M (mR M a0 2) 6 <|
  cI (f6_isNone M (mR M a0 2)) fun r4 M4 =>
  if r4 = 0 then
    aO M4 a0 11 <|
    aO M4 (mR M4 a0 10) 7 <|
    cI (f7_hasRule M4 (mR M4 a0 10) a1) fun r15 M15 =>
    if r15 = 0 then
      some ((-2 : Int64), M15)
    else
      aO M15 a0 11 <|
      cI (f11_isOut M15 a0 a1) fun r23 M23 =>
      if r23 = 0 then
        aO M23 a0 11 <|
        cJ (f11_costOfNow M23 a0) fun r34 M34 =>
        if r34 < (1000000000000001 : Int64) then
          aO M34 a0 11 <|
          aO M34 a0 11 <|
          aO M34 (mR M34 a0 6) 1 <|
          cV (f1_startForGoals M34 (mR M34 a0 6) (mR M34 a0 10)) fun M58 =>
          aO M58 a0 11 <|
          aO M58 a0 11 <|
          aO M58 a0 11 <|
          aO M58 (mR M58 a0 6) 1 <|
          cV (f1_saturate M58 (mR M58 a0 6) (mR M58 a0 10) ((mI M58 a0 12) ||| ((1 : Int32) <<< (a1 &&& 31)))) fun M77 =>
          aO M77 a0 11 <|
          aO M77 a0 11 <|
          aO M77 (mR M77 a0 6) 1 <|
          cJ (f1_of M77 (mR M77 a0 6) (mR M77 a0 2)) fun r88 M88 =>
          if r88 < (1000000000000001 : Int64) then
            some (r88 - r34, M88)
          else
            some ((-1 : Int64), M88)
        else
          some ((-2 : Int64), M34)
      else
        some ((-2 : Int64), M23)
  else
    some ((-2 : Int64), M4)
set_option maxRecDepth 4000 in
theorem T11_matters (M : MM) (a0 : Nat) (a1 : Int32) : ∀ q, f11_matters M a0 a1 = some q → Run i11_matters [vr a0, vi a1] M (Ll q) := by
  obtain ⟨d0, d1, d4, d7, d10, d11, d14, d15, d18, d21, d22, d23, d26, d29, d32, d33, d34, d37, d38, d39, d42, d43, d46, d49, d50, d51, d54, d55, d58, d61, d62, d65, d66, d69, d70, d73, d74, d75, d76, d77, d80, d81, d84, d85, d88, d91, d93, d95, d98, d99, d102, d105, d108, d110, d111, d112, -⟩ := dd11_matters
  refine Run_of_X (by decide) (Nat.le_of_ble_eq_true rfl) ?_
  show X Ll i11_matters 0 [(0, vr a0), (1, vi a1)] [] M _
  unfold f11_matters
  refine X_aloadn 0 d0 rfl ?_
  refine X_getR d1 fg_x11_40 ?_
  refine X_cVi (as := []) d4 cv_x11_168 ⟨by decide, by decide⟩ rfl (Nat.le_of_ble_eq_true rfl) (T6_isNone M (mR M a0 2)) (fun r4 M4 _ => ?_)
  refine X_if_ne (t := 29) d7 rfl (fun h7 => ?_) (fun h7 => ?_)
  · refine X_aloadn 0 d10 rfl ?_
    refine X_getR d11 fg_x11_19 ?_
    refine X_iloadn 1 d14 rfl ?_
    refine X_cVi (as := [vi a1]) d15 cv_x11_139 ⟨by decide, by decide⟩ rfl (Nat.le_of_ble_eq_true rfl) (T7_hasRule M4 (mR M4 a0 10) a1) (fun r15 M15 _ => ?_)
    refine X_if_eq (t := 29) d18 rfl (fun h18 => ?_) (fun h18 => ?_)
    · refine X_ldc2 kc_x11_251 d29 ?_
      exact X_lreturn d32 rfl rfl
    · refine X_aloadn 0 d21 rfl ?_
      refine X_iloadn 1 d22 rfl ?_
      refine X_cVi (as := [vi a1]) d23 cv_x11_143 ⟨by decide, by decide⟩ rfl (Nat.le_of_ble_eq_true rfl) (T11_isOut M15 a0 a1) (fun r23 M23 _ => ?_)
      refine X_if_eq (t := 33) d26 rfl (fun h26 => ?_) (fun h26 => ?_)
      · refine X_aloadn 0 d33 rfl ?_
        refine X_cVl (as := []) d34 cv_x11_208 ⟨by decide, by decide⟩ rfl (Nat.le_of_ble_eq_true rfl) (T11_costOfNow M23 a0) (fun r34 M34 _ => ?_)
        refine X_lstoren (lv' := [(2, vl r34), (0, vr a0), (1, vi a1)]) d37 (by decide) rfl ?_
        refine X_lloadn 0 d38 rfl ?_
        refine X_ldc2 kc_x11_216 d39 ?_
        refine X_lif_lt (t := 50) d42 d43 rfl (fun h42 => ?_) (fun h42 => ?_)
        · refine X_aloadn 1 d50 rfl ?_
          refine X_getR d51 fg_x11_61 ?_
          refine X_aloadn 1 d54 rfl ?_
          refine X_getR d55 fg_x11_19 ?_
          refine X_cVv (as := [vr (mR M34 a0 10)]) d58 cv_x11_253 ⟨by decide, by decide⟩ rfl (Nat.le_of_ble_eq_true rfl) (T1_startForGoals M34 (mR M34 a0 6) (mR M34 a0 10)) (fun M58 _ => ?_)
          refine X_aloadn 1 d61 rfl ?_
          refine X_getR d62 fg_x11_61 ?_
          refine X_aloadn 1 d65 rfl ?_
          refine X_getR d66 fg_x11_19 ?_
          refine X_aloadn 1 d69 rfl ?_
          refine X_getI d70 fg_x11_87 ?_
          refine X_iconst k_i_1 d73 ?_
          refine X_iloadn 2 d74 rfl ?_
          refine X_ishl d75 ?_
          refine X_ior d76 ?_
          refine X_cVv (as := [vr (mR M58 a0 10), vi ((mI M58 a0 12) ||| ((1 : Int32) <<< (a1 &&& 31)))]) d77 cv_x11_257 ⟨by decide, by decide⟩ rfl (Nat.le_of_ble_eq_true rfl) (T1_saturate M58 (mR M58 a0 6) (mR M58 a0 10) ((mI M58 a0 12) ||| ((1 : Int32) <<< (a1 &&& 31)))) (fun M77 _ => ?_)
          refine X_aloadn 1 d80 rfl ?_
          refine X_getR d81 fg_x11_61 ?_
          refine X_aloadn 1 d84 rfl ?_
          refine X_getR d85 fg_x11_40 ?_
          refine X_cVl (as := [vr (mR M77 a0 2)]) d88 cv_x11_260 ⟨by decide, by decide⟩ rfl (Nat.le_of_ble_eq_true rfl) (T1_of M77 (mR M77 a0 6) (mR M77 a0 2)) (fun r88 M88 _ => ?_)
          refine X_lstore (lv' := [(4, vl r88), (2, vl r34), (0, vr a0), (1, vi a1)]) d91 (by decide) rfl ?_
          refine X_lload 0 d93 rfl ?_
          refine X_ldc2 kc_x11_216 d95 ?_
          refine X_lif_lt (t := 108) d98 d99 rfl (fun h98 => ?_) (fun h98 => ?_)
          · refine X_lload 0 d108 rfl ?_
            refine X_lloadn 1 d110 rfl ?_
            refine X_lsub d111 ?_
            exact X_lreturn d112 rfl rfl
          · refine X_ldc2 kc_x11_206 d102 ?_
            refine X_goto (t := 112) d105 rfl ?_
            exact X_lreturn d112 rfl rfl
        · refine X_ldc2 kc_x11_251 d46 ?_
          exact X_lreturn d49 rfl rfl
      · refine X_ldc2 kc_x11_251 d29 ?_
        exact X_lreturn d32 rfl rfl
  · refine X_ldc2 kc_x11_251 d29 ?_
    exact X_lreturn d32 rfl rfl

theorem dd11_next : AllD (ib i11_next) [(0, .aload_n 0, 1), (1, .getfield 19, 3), (4, .iload_n 1, 1), (5, .invokevirtual 231, 3), (8, .ifCond .eq 14, 3), (11, .aload_n 0, 1), (12, .getfield 19, 3), (15, .iload_n 3, 1), (16, .invokevirtual 234, 3), (19, .ifCond .ne 5, 3), (22, .iconst (-1), 1), (23, .ireturn, 1), (24, .aload_n 0, 1), (25, .iload_n 1, 1), (26, .invokevirtual 307, 3), (29, .aload_n 0, 1), (30, .getfield 83, 3), (33, .iload_n 2, 1), (34, .invokevirtual 313, 3), (37, .ifCond .eq 15, 3), (40, .aload_n 0, 1), (41, .getfield 83, 3), (44, .iload_n 2, 1), (45, .iload_n 3, 1), (46, .invokevirtual 316, 3), (49, .goto 4, 3), (52, .iconst (-1), 1), (53, .ireturn, 1)] := allD_of (by decide +kernel)
def f11_next (M : MM) (a0 : Nat) (a1 : Int32) (a2 : Int32) (a3 : Int32) : Option (Int32 × MM) :=
  aO M a0 11 <|
  aO M (mR M a0 10) 7 <|
  cI (f7_hasState M (mR M a0 10) a1) fun r5 M5 =>
  if r5 = 0 then
    some ((-1 : Int32), M5)
  else
    aO M5 a0 11 <|
    aO M5 (mR M5 a0 10) 7 <|
    cI (f7_hasSign M5 (mR M5 a0 10) a3) fun r16 M16 =>
    if r16 = 0 then
      some ((-1 : Int32), M16)
    else
      aO M16 a0 11 <|
      cV (f11_settleMachine M16 a0 a1) fun M26 =>
      aO M26 a0 11 <|
      aO M26 (mR M26 a0 9) 5 <|
      cI (f5_hasNode M26 (mR M26 a0 9) a2) fun r34 M34 =>
      if r34 = 0 then
        some ((-1 : Int32), M34)
      else
        aO M34 a0 11 <|
        aO M34 (mR M34 a0 9) 5 <|
        cI (f5_nodeBehind M34 (mR M34 a0 9) a2 a3) fun r46 M46 =>
        some (r46, M46)
set_option maxRecDepth 4000 in
theorem T11_next (M : MM) (a0 : Nat) (a1 : Int32) (a2 : Int32) (a3 : Int32) : ∀ q, f11_next M a0 a1 a2 a3 = some q → Run i11_next [vr a0, vi a1, vi a2, vi a3] M (Li q) := by
  obtain ⟨d0, d1, d4, d5, d8, d11, d12, d15, d16, d19, d22, d23, d24, d25, d26, d29, d30, d33, d34, d37, d40, d41, d44, d45, d46, d49, d52, d53, -⟩ := dd11_next
  refine Run_of_X (by decide) (Nat.le_of_ble_eq_true rfl) ?_
  show X Li i11_next 0 [(0, vr a0), (1, vi a1), (2, vi a2), (3, vi a3)] [] M _
  unfold f11_next
  refine X_aloadn 0 d0 rfl ?_
  refine X_getR d1 fg_x11_19 ?_
  refine X_iloadn 1 d4 rfl ?_
  refine X_cVi (as := [vi a1]) d5 cv_x11_231 ⟨by decide, by decide⟩ rfl (Nat.le_of_ble_eq_true rfl) (T7_hasState M (mR M a0 10) a1) (fun r5 M5 _ => ?_)
  refine X_if_eq (t := 22) d8 rfl (fun h8 => ?_) (fun h8 => ?_)
  · refine X_iconst k_i_m1 d22 ?_
    exact X_ireturn d23 rfl rfl
  · refine X_aloadn 0 d11 rfl ?_
    refine X_getR d12 fg_x11_19 ?_
    refine X_iloadn 3 d15 rfl ?_
    refine X_cVi (as := [vi a3]) d16 cv_x11_234 ⟨by decide, by decide⟩ rfl (Nat.le_of_ble_eq_true rfl) (T7_hasSign M5 (mR M5 a0 10) a3) (fun r16 M16 _ => ?_)
    refine X_if_ne (t := 24) d19 rfl (fun h19 => ?_) (fun h19 => ?_)
    · refine X_iconst k_i_m1 d22 ?_
      exact X_ireturn d23 rfl rfl
    · refine X_aloadn 0 d24 rfl ?_
      refine X_iloadn 1 d25 rfl ?_
      refine X_cVv (as := [vi a1]) d26 cv_x11_307 ⟨by decide, by decide⟩ rfl (Nat.le_of_ble_eq_true rfl) (T11_settleMachine M16 a0 a1) (fun M26 _ => ?_)
      refine X_aloadn 0 d29 rfl ?_
      refine X_getR d30 fg_x11_83 ?_
      refine X_iloadn 2 d33 rfl ?_
      refine X_cVi (as := [vi a2]) d34 cv_x11_313 ⟨by decide, by decide⟩ rfl (Nat.le_of_ble_eq_true rfl) (T5_hasNode M26 (mR M26 a0 9) a2) (fun r34 M34 _ => ?_)
      refine X_if_eq (t := 52) d37 rfl (fun h37 => ?_) (fun h37 => ?_)
      · refine X_iconst k_i_m1 d52 ?_
        exact X_ireturn d53 rfl rfl
      · refine X_aloadn 0 d40 rfl ?_
        refine X_getR d41 fg_x11_83 ?_
        refine X_iloadn 2 d44 rfl ?_
        refine X_iloadn 3 d45 rfl ?_
        refine X_cVi (as := [vi a2, vi a3]) d46 cv_x11_316 ⟨by decide, by decide⟩ rfl (Nat.le_of_ble_eq_true rfl) (T5_nodeBehind M34 (mR M34 a0 9) a2 a3) (fun r46 M46 _ => ?_)
        refine X_goto (t := 53) d49 rfl ?_
        exact X_ireturn d53 rfl rfl

theorem dd11_now_b93 : AllD (ib i11_now) [(93, .iconst 0, 1)] := allD_of (by decide +kernel)
def f11_now_b93 (K94 : MM → Nat → Int32 → Int32 → Option (Int32 × MM)) (M : MM) (a0 : Nat) (a1 : Int32) : Option (Int32 × MM) :=
  K94 M a0 a1 (0 : Int32)
set_option maxRecDepth 4000 in
theorem T11_now_b93 {K94 : MM → Nat → Int32 → Int32 → Option (Int32 × MM)} (hK94 : ∀ (M : MM) (a0 : Nat) (a1 : Int32) (s0 : Int32), X Li i11_now 94 [(0, vr a0), (1, vi a1)] [vi s0] M (K94 M a0 a1 s0)) : ∀ (M : MM) (a0 : Nat) (a1 : Int32), X Li i11_now 93 [(0, vr a0), (1, vi a1)] [] M (f11_now_b93 K94 M a0 a1) := by
  obtain ⟨d93, -⟩ := dd11_now_b93
  intro M a0 a1
  unfold f11_now_b93
  refine X_iconst k_i_0 d93 ?_
  exact hK94 M a0 a1 (0 : Int32)

theorem dd11_now_b94 : AllD (ib i11_now) [(94, .istore_n 2, 1), (95, .iload_n 2, 1), (96, .ifCond .eq 17, 3), (99, .aload_n 0, 1), (100, .getfield 40, 3), (103, .iload_n 1, 1), (104, .bipush 10, 2), (106, .isub, 1), (107, .invokevirtual 178, 3), (110, .goto 5, 3), (113, .bipush (-2), 2), (115, .ireturn, 1)] := allD_of (by decide +kernel)
def f11_now_b94 (M : MM) (a0 : Nat) (a1 : Int32) (s0 : Int32) : Option (Int32 × MM) :=
  if s0 = 0 then
    some ((-2 : Int32), M)
  else
    aO M a0 11 <|
    aO M (mR M a0 2) 6 <|
    cI (f6_fromTop M (mR M a0 2) (a1 - (10 : Int32))) fun r107 M107 =>
    some (r107, M107)
set_option maxRecDepth 4000 in
theorem T11_now_b94 : ∀ (M : MM) (a0 : Nat) (a1 : Int32) (s0 : Int32), X Li i11_now 94 [(0, vr a0), (1, vi a1)] [vi s0] M (f11_now_b94 M a0 a1 s0) := by
  obtain ⟨d94, d95, d96, d99, d100, d103, d104, d106, d107, d110, d113, d115, -⟩ := dd11_now_b94
  intro M a0 a1 s0
  unfold f11_now_b94
  refine X_istoren (lv' := [(2, vi s0), (0, vr a0), (1, vi a1)]) d94 (by decide) rfl ?_
  refine X_iloadn 0 d95 rfl ?_
  refine X_if_eq (t := 113) d96 rfl (fun h96 => ?_) (fun h96 => ?_)
  · refine X_bipush k_b_m2 d113 ?_
    exact X_ireturn d115 rfl rfl
  · refine X_aloadn 1 d99 rfl ?_
    refine X_getR d100 fg_x11_40 ?_
    refine X_iloadn 2 d103 rfl ?_
    refine X_bipush k_b_10 d104 ?_
    refine X_isub d106 ?_
    refine X_cVi (as := [vi (a1 - (10 : Int32))]) d107 cv_x11_178 ⟨by decide, by decide⟩ rfl (Nat.le_of_ble_eq_true rfl) (T6_fromTop M (mR M a0 2) (a1 - (10 : Int32))) (fun r107 M107 _ => ?_)
    refine X_goto (t := 115) d110 rfl ?_
    exact X_ireturn d115 rfl rfl

theorem dd11_now : AllD (ib i11_now) [(0, .aload_n 0, 1), (1, .getfield 40, 3), (4, .invokevirtual 168, 3), (7, .ifCond .eq 6, 3), (10, .bipush (-2), 2), (12, .ireturn, 1), (13, .iload_n 1, 1), (14, .tableswitch 55 0 2 #[26, 34, 42], 26), (40, .aload_n 0, 1), (41, .getfield 40, 3), (44, .getfield 172, 3), (47, .ireturn, 1), (48, .aload_n 0, 1), (49, .getfield 40, 3), (52, .getfield 165, 3), (55, .ireturn, 1), (56, .aload_n 0, 1), (57, .invokevirtual 175, 3), (60, .ifCond .eq 7, 3), (63, .iconst 1, 1), (64, .goto 4, 3), (67, .iconst 0, 1), (68, .ireturn, 1), (69, .iload_n 1, 1), (70, .bipush 10, 2), (72, .if_icmp .lt 21, 3), (75, .iload_n 1, 1), (76, .bipush 10, 2), (78, .isub, 1), (79, .aload_n 0, 1), (80, .getfield 40, 3), (83, .getfield 165, 3), (86, .if_icmp .ge 7, 3), (89, .iconst 1, 1), (90, .goto 4, 3)] := allD_of (by decide +kernel)
def f11_now (M : MM) (a0 : Nat) (a1 : Int32) : Option (Int32 × MM) :=
  aO M a0 11 <|
  aO M (mR M a0 2) 6 <|
  cI (f6_isNone M (mR M a0 2)) fun r4 M4 =>
  if r4 = 0 then
    if a1 = (0 : Int32) then
      aO M4 a0 11 <|
      aO M4 (mR M4 a0 2) 6 <|
      some (mI M4 (mR M4 a0 2) 2, M4)
    else
    if a1 = (1 : Int32) then
      aO M4 a0 11 <|
      aO M4 (mR M4 a0 2) 6 <|
      some (mI M4 (mR M4 a0 2) 3, M4)
    else
    if a1 = (2 : Int32) then
      aO M4 a0 11 <|
      cI (f11_isAtGoal M4 a0) fun r57 M57 =>
      if r57 = 0 then
        some ((0 : Int32), M57)
      else
        some ((1 : Int32), M57)
    else
    if a1 < (10 : Int32) then
      (f11_now_b93 f11_now_b94) M4 a0 a1
    else
      aO M4 a0 11 <|
      aO M4 (mR M4 a0 2) 6 <|
      if (mI M4 (mR M4 a0 2) 3) ≤ (a1 - (10 : Int32)) then
        (f11_now_b93 f11_now_b94) M4 a0 a1
      else
        f11_now_b94 M4 a0 a1 (1 : Int32)
  else
    some ((-2 : Int32), M4)
set_option maxRecDepth 4000 in
theorem T11_now (M : MM) (a0 : Nat) (a1 : Int32) : ∀ q, f11_now M a0 a1 = some q → Run i11_now [vr a0, vi a1] M (Li q) := by
  obtain ⟨d0, d1, d4, d7, d10, d12, d13, d14, d40, d41, d44, d47, d48, d49, d52, d55, d56, d57, d60, d63, d64, d67, d68, d69, d70, d72, d75, d76, d78, d79, d80, d83, d86, d89, d90, -⟩ := dd11_now
  refine Run_of_X (by decide) (Nat.le_of_ble_eq_true rfl) ?_
  show X Li i11_now 0 [(0, vr a0), (1, vi a1)] [] M _
  unfold f11_now
  refine X_aloadn 0 d0 rfl ?_
  refine X_getR d1 fg_x11_40 ?_
  refine X_cVi (as := []) d4 cv_x11_168 ⟨by decide, by decide⟩ rfl (Nat.le_of_ble_eq_true rfl) (T6_isNone M (mR M a0 2)) (fun r4 M4 _ => ?_)
  refine X_if_eq (t := 13) d7 rfl (fun h7 => ?_) (fun h7 => ?_)
  · refine X_iloadn 1 d13 rfl ?_
    refine X_ite (fun h14_0 => X_tin (t := 40) h14_0 d14 (by decide) (by decide) rfl rfl ?_) (fun h14_0 => ?_)
    · refine X_aloadn 0 d40 rfl ?_
      refine X_getR d41 fg_x11_40 ?_
      refine X_getI d44 fg_x11_172 ?_
      exact X_ireturn d47 rfl rfl
    refine X_ite (fun h14_1 => X_tin (t := 48) h14_1 d14 (by decide) (by decide) rfl rfl ?_) (fun h14_1 => ?_)
    · refine X_aloadn 0 d48 rfl ?_
      refine X_getR d49 fg_x11_40 ?_
      refine X_getI d52 fg_x11_165 ?_
      exact X_ireturn d55 rfl rfl
    refine X_ite (fun h14_2 => X_tin (t := 56) h14_2 d14 (by decide) (by decide) rfl rfl ?_) (fun h14_2 => ?_)
    · refine X_aloadn 0 d56 rfl ?_
      refine X_cVi (as := []) d57 cv_x11_175 ⟨by decide, by decide⟩ rfl (Nat.le_of_ble_eq_true rfl) (T11_isAtGoal M4 a0) (fun r57 M57 _ => ?_)
      refine X_if_eq (t := 67) d60 rfl (fun h60 => ?_) (fun h60 => ?_)
      · refine X_iconst k_i_0 d67 ?_
        exact X_ireturn d68 rfl rfl
      · refine X_iconst k_i_1 d63 ?_
        refine X_goto (t := 68) d64 rfl ?_
        exact X_ireturn d68 rfl rfl
    refine X_tout (t := 69) (tsw_out3 h14_0 h14_1 h14_2) d14 rfl ?_
    refine X_iloadn 1 d69 rfl ?_
    refine X_bipush k_b_10 d70 ?_
    refine X_icmp_lt (t := 93) d72 rfl (fun h72 => ?_) (fun h72 => ?_)
    · exact (T11_now_b93 T11_now_b94) M4 a0 a1
    · refine X_iloadn 1 d75 rfl ?_
      refine X_bipush k_b_10 d76 ?_
      refine X_isub d78 ?_
      refine X_aloadn 0 d79 rfl ?_
      refine X_getR d80 fg_x11_40 ?_
      refine X_getI d83 fg_x11_165 ?_
      refine X_icmp_ge (t := 93) d86 rfl (fun h86 => ?_) (fun h86 => ?_)
      · exact (T11_now_b93 T11_now_b94) M4 a0 a1
      · refine X_iconst k_i_1 d89 ?_
        refine X_goto (t := 94) d90 rfl ?_
        exact T11_now_b94 M4 a0 a1 (1 : Int32)
  · refine X_bipush k_b_m2 d10 ?_
    exact X_ireturn d12 rfl rfl

theorem dd11_putOut : AllD (ib i11_putOut) [(0, .aload_n 0, 1), (1, .iload_n 1, 1), (2, .putfield 87, 3), (5, .aload_n 0, 1), (6, .iconst 0, 1), (7, .putfield 91, 3), (10, .aload_n 0, 1), (11, .iconst 0, 1), (12, .putfield 95, 3), (15, .return_, 1)] := allD_of (by decide +kernel)
def f11_putOut (M : MM) (a0 : Nat) (a1 : Int32) : Option MM :=
  aO M a0 11 <|
  bM (sI M a0 12 a1) fun M2 =>
  aO M2 a0 11 <|
  bM (sI M2 a0 13 (0 : Int32)) fun M7 =>
  aO M7 a0 11 <|
  bM (sI M7 a0 14 (0 : Int32)) fun M12 =>
  some M12
set_option maxRecDepth 4000 in
theorem T11_putOut (M : MM) (a0 : Nat) (a1 : Int32) : ∀ q, f11_putOut M a0 a1 = some q → Run i11_putOut [vr a0, vi a1] M (Lv q) := by
  obtain ⟨d0, d1, d2, d5, d6, d7, d10, d11, d12, d15, -⟩ := dd11_putOut
  refine Run_of_X (by decide) (Nat.le_of_ble_eq_true rfl) ?_
  show X Lv i11_putOut 0 [(0, vr a0), (1, vi a1)] [] M _
  unfold f11_putOut
  refine X_aloadn 0 d0 rfl ?_
  refine X_iloadn 1 d1 rfl ?_
  refine X_putI d2 fp_x11_87 ?_
  refine X_bM fun M2 _ => ?_
  refine X_aloadn 0 d5 rfl ?_
  refine X_iconst k_i_0 d6 ?_
  refine X_putZc d7 fp_x11_91 (by decide) ?_
  refine X_bM fun M7 _ => ?_
  refine X_aloadn 0 d10 rfl ?_
  refine X_iconst k_i_0 d11 ?_
  refine X_putZc d12 fp_x11_95 (by decide) ?_
  refine X_bM fun M12 _ => ?_
  exact X_vreturn d15 rfl rfl

theorem dd11_out : AllD (ib i11_out) [(0, .aload_n 0, 1), (1, .getfield 19, 3), (4, .iload_n 1, 1), (5, .invokevirtual 139, 3), (8, .ifCond .eq 12, 3), (11, .aload_n 0, 1), (12, .iload_n 1, 1), (13, .invokevirtual 143, 3), (16, .iload_n 2, 1), (17, .if_icmp .ne 5, 3), (20, .iconst 0, 1), (21, .ireturn, 1), (22, .aload_n 0, 1), (23, .getfield 50, 3), (26, .aload_n 0, 1), (27, .getfield 40, 3), (30, .aload_n 0, 1), (31, .getfield 87, 3), (34, .invokevirtual 157, 3), (37, .aload_n 0, 1), (38, .aload_n 0, 1), (39, .getfield 87, 3), (42, .iconst 1, 1), (43, .iload_n 1, 1), (44, .ishl, 1), (45, .ixor, 1), (46, .invokevirtual 115, 3), (49, .iconst 1, 1), (50, .ireturn, 1)] := allD_of (by decide +kernel)
def f11_out (M : MM) (a0 : Nat) (a1 : Int32) (a2 : Int32) : Option (Int32 × MM) :=
  aO M a0 11 <|
  aO M (mR M a0 10) 7 <|
  cI (f7_hasRule M (mR M a0 10) a1) fun r5 M5 =>
  if r5 = 0 then
    some ((0 : Int32), M5)
  else
    aO M5 a0 11 <|
    cI (f11_isOut M5 a0 a1) fun r13 M13 =>
    if r13 = a2 then
      some ((0 : Int32), M13)
    else
      aO M13 a0 11 <|
      aO M13 a0 11 <|
      aO M13 a0 11 <|
      aO M13 (mR M13 a0 4) 0 <|
      cV (f0_keep M13 (mR M13 a0 4) (mR M13 a0 2) (mI M13 a0 12)) fun M34 =>
      aO M34 a0 11 <|
      aO M34 a0 11 <|
      cV (f11_putOut M34 a0 ((mI M34 a0 12) ^^^ ((1 : Int32) <<< (a1 &&& 31)))) fun M46 =>
      some ((1 : Int32), M46)
set_option maxRecDepth 4000 in
theorem T11_out (M : MM) (a0 : Nat) (a1 : Int32) (a2 : Int32) : ∀ q, f11_out M a0 a1 a2 = some q → Run i11_out [vr a0, vi a1, vi a2] M (Li q) := by
  obtain ⟨d0, d1, d4, d5, d8, d11, d12, d13, d16, d17, d20, d21, d22, d23, d26, d27, d30, d31, d34, d37, d38, d39, d42, d43, d44, d45, d46, d49, d50, -⟩ := dd11_out
  refine Run_of_X (by decide) (Nat.le_of_ble_eq_true rfl) ?_
  show X Li i11_out 0 [(0, vr a0), (1, vi a1), (2, vi a2)] [] M _
  unfold f11_out
  refine X_aloadn 0 d0 rfl ?_
  refine X_getR d1 fg_x11_19 ?_
  refine X_iloadn 1 d4 rfl ?_
  refine X_cVi (as := [vi a1]) d5 cv_x11_139 ⟨by decide, by decide⟩ rfl (Nat.le_of_ble_eq_true rfl) (T7_hasRule M (mR M a0 10) a1) (fun r5 M5 _ => ?_)
  refine X_if_eq (t := 20) d8 rfl (fun h8 => ?_) (fun h8 => ?_)
  · refine X_iconst k_i_0 d20 ?_
    exact X_zreturnc d21 rfl (by decide) rfl
  · refine X_aloadn 0 d11 rfl ?_
    refine X_iloadn 1 d12 rfl ?_
    refine X_cVi (as := [vi a1]) d13 cv_x11_143 ⟨by decide, by decide⟩ rfl (Nat.le_of_ble_eq_true rfl) (T11_isOut M5 a0 a1) (fun r13 M13 _ => ?_)
    refine X_iloadn 2 d16 rfl ?_
    refine X_icmp_ne (t := 22) d17 rfl (fun h17 => ?_) (fun h17 => ?_)
    · refine X_iconst k_i_0 d20 ?_
      exact X_zreturnc d21 rfl (by decide) rfl
    · refine X_aloadn 0 d22 rfl ?_
      refine X_getR d23 fg_x11_50 ?_
      refine X_aloadn 0 d26 rfl ?_
      refine X_getR d27 fg_x11_40 ?_
      refine X_aloadn 0 d30 rfl ?_
      refine X_getI d31 fg_x11_87 ?_
      refine X_cVv (as := [vr (mR M13 a0 2), vi (mI M13 a0 12)]) d34 cv_x11_157 ⟨by decide, by decide⟩ rfl (Nat.le_of_ble_eq_true rfl) (T0_keep M13 (mR M13 a0 4) (mR M13 a0 2) (mI M13 a0 12)) (fun M34 _ => ?_)
      refine X_aloadn 0 d37 rfl ?_
      refine X_aloadn 0 d38 rfl ?_
      refine X_getI d39 fg_x11_87 ?_
      refine X_iconst k_i_1 d42 ?_
      refine X_iloadn 1 d43 rfl ?_
      refine X_ishl d44 ?_
      refine X_ixor d45 ?_
      refine X_cVv (as := [vi ((mI M34 a0 12) ^^^ ((1 : Int32) <<< (a1 &&& 31)))]) d46 cv_x11_115 ⟨by decide, by decide⟩ rfl (Nat.le_of_ble_eq_true rfl) (T11_putOut M34 a0 ((mI M34 a0 12) ^^^ ((1 : Int32) <<< (a1 &&& 31)))) (fun M46 _ => ?_)
      refine X_iconst k_i_1 d49 ?_
      exact X_zreturnc d50 rfl (by decide) rfl

