/-! printed by program: methods as functions, and that the bytecode does what they tell -/
theorem ddJ_bitCount : AllD (ib iJ_bitCount) [(0, .iload_n 0, 1), (1, .iload_n 0, 1), (2, .iconst 1, 1), (3, .iushr, 1), (4, .ldc_w 265, 3), (7, .iand, 1), (8, .isub, 1), (9, .istore_n 0, 1), (10, .iload_n 0, 1), (11, .ldc_w 266, 3), (14, .iand, 1), (15, .iload_n 0, 1), (16, .iconst 2, 1), (17, .iushr, 1), (18, .ldc_w 266, 3), (21, .iand, 1), (22, .iadd, 1), (23, .istore_n 0, 1), (24, .iload_n 0, 1), (25, .iload_n 0, 1), (26, .iconst 4, 1), (27, .iushr, 1), (28, .iadd, 1), (29, .ldc_w 267, 3), (32, .iand, 1), (33, .istore_n 0, 1), (34, .iload_n 0, 1), (35, .iload_n 0, 1), (36, .bipush 8, 2), (38, .iushr, 1), (39, .iadd, 1), (40, .istore_n 0, 1), (41, .iload_n 0, 1), (42, .iload_n 0, 1), (43, .bipush 16, 2), (45, .iushr, 1), (46, .iadd, 1), (47, .istore_n 0, 1), (48, .iload_n 0, 1), (49, .bipush 63, 2), (51, .iand, 1), (52, .ireturn, 1)] := allD_of (by decide +kernel)
def fJ_bitCount (M : MM) (a0 : Int32) : Option (Int32 × MM) :=
  bW (a0 - ((ushr a0 (1 : Int32)) &&& (1431655765 : Int32))) fun v9 =>
  bW ((v9 &&& (858993459 : Int32)) + ((ushr v9 (2 : Int32)) &&& (858993459 : Int32))) fun v23 =>
  bW ((v23 + (ushr v23 (4 : Int32))) &&& (252645135 : Int32)) fun v33 =>
  bW (v33 + (ushr v33 (8 : Int32))) fun v40 =>
  bW (v40 + (ushr v40 (16 : Int32))) fun v47 =>
  some (v47 &&& (63 : Int32), M)
set_option maxRecDepth 4000 in
theorem TJ_bitCount (M : MM) (a0 : Int32) : ∀ q, fJ_bitCount M a0 = some q → Run iJ_bitCount [vi a0] M (Li q) := by
  obtain ⟨d0, d1, d2, d3, d4, d7, d8, d9, d10, d11, d14, d15, d16, d17, d18, d21, d22, d23, d24, d25, d26, d27, d28, d29, d32, d33, d34, d35, d36, d38, d39, d40, d41, d42, d43, d45, d46, d47, d48, d49, d51, d52, -⟩ := ddJ_bitCount
  refine Run_of_X (by decide) (Nat.le_of_ble_eq_true rfl) ?_
  show X Li iJ_bitCount 0 [(0, vi a0)] [] M _
  unfold fJ_bitCount
  refine X_iloadn 0 d0 rfl ?_
  refine X_iloadn 0 d1 rfl ?_
  refine X_iconst k_i_1 d2 ?_
  refine X_iushr d3 ?_
  refine X_ldcw kc_jInteger_265 d4 ?_
  refine X_iand d7 ?_
  refine X_isub d8 ?_
  refine X_bWi fun v9 _ => ?_
  refine X_istoren (lv' := [(0, vi v9)]) d9 (by decide) rfl ?_
  refine X_iloadn 0 d10 rfl ?_
  refine X_ldcw kc_jInteger_266 d11 ?_
  refine X_iand d14 ?_
  refine X_iloadn 0 d15 rfl ?_
  refine X_iconst k_i_2 d16 ?_
  refine X_iushr d17 ?_
  refine X_ldcw kc_jInteger_266 d18 ?_
  refine X_iand d21 ?_
  refine X_iadd d22 ?_
  refine X_bWi fun v23 _ => ?_
  refine X_istoren (lv' := [(0, vi v23)]) d23 (by decide) rfl ?_
  refine X_iloadn 0 d24 rfl ?_
  refine X_iloadn 0 d25 rfl ?_
  refine X_iconst k_i_4 d26 ?_
  refine X_iushr d27 ?_
  refine X_iadd d28 ?_
  refine X_ldcw kc_jInteger_267 d29 ?_
  refine X_iand d32 ?_
  refine X_bWi fun v33 _ => ?_
  refine X_istoren (lv' := [(0, vi v33)]) d33 (by decide) rfl ?_
  refine X_iloadn 0 d34 rfl ?_
  refine X_iloadn 0 d35 rfl ?_
  refine X_bipush k_b_8 d36 ?_
  refine X_iushr d38 ?_
  refine X_iadd d39 ?_
  refine X_bWi fun v40 _ => ?_
  refine X_istoren (lv' := [(0, vi v40)]) d40 (by decide) rfl ?_
  refine X_iloadn 0 d41 rfl ?_
  refine X_iloadn 0 d42 rfl ?_
  refine X_bipush k_b_16 d43 ?_
  refine X_iushr d45 ?_
  refine X_iadd d46 ?_
  refine X_bWi fun v47 _ => ?_
  refine X_istoren (lv' := [(0, vi v47)]) d47 (by decide) rfl ?_
  refine X_iloadn 0 d48 rfl ?_
  refine X_bipush k_b_63 d49 ?_
  refine X_iand d51 ?_
  exact X_ireturn d52 rfl rfl

theorem ddJ_copyI : AllD (ib iJ_copyI) [(0, .iload_n 1, 1), (1, .aload_n 0, 1), (2, .arraylength, 1), (3, .if_icmp .ne 11, 3), (14, .iload_n 1, 1), (15, .newarray .int, 2), (17, .astore_n 2, 1), (18, .aload_n 0, 1), (19, .iconst 0, 1), (20, .aload_n 2, 1), (21, .iconst 0, 1), (22, .aload_n 0, 1), (23, .arraylength, 1), (24, .iload_n 1, 1), (25, .invokestatic 304, 3), (28, .invokestatic 150, 3), (31, .aload_n 2, 1), (32, .areturn, 1)] := allD_of (by decide +kernel)
def fJ_copyI (M : MM) (a0 : Nat) (a1 : Int32) : Option (Nat × MM) :=
  aL M a0 0 <|
  if a1 = (nI (mK M a0).2) then
    none
  else
    gd (¬ a1 < 0 ∧ a1.toNatClampNeg ≤ 60000000) <|
    bW (mz M) fun q15 =>
    bM (nw M 0 a1.toNatClampNeg) fun M15 =>
    aL M15 a0 0 <|
    aL M15 a0 0 <| aL M15 q15 0 <| gd (cpyOk M15 a0 q15 (0 : Int32) (0 : Int32) (mnI (nI (mK M15 a0).2) a1)) <|
    bM (sIr M15 q15 (va_cpy (mI M15 a0) (mI M15 q15) (0 : Int32).toNatClampNeg (0 : Int32).toNatClampNeg (mnI (nI (mK M15 a0).2) a1).toNatClampNeg)) fun M28 =>
    some (q15, M28)
set_option maxRecDepth 4000 in
theorem TJ_copyI (M : MM) (a0 : Nat) (a1 : Int32) : ∀ q, fJ_copyI M a0 a1 = some q → Run iJ_copyI [vr a0, vi a1] M (Lr q) := by
  obtain ⟨d0, d1, d2, d3, d14, d15, d17, d18, d19, d20, d21, d22, d23, d24, d25, d28, d31, d32, -⟩ := ddJ_copyI
  refine Run_of_X (by decide) (Nat.le_of_ble_eq_true rfl) ?_
  show X Lr iJ_copyI 0 [(0, vr a0), (1, vi a1)] [] M _
  unfold fJ_copyI
  refine X_iloadn 1 d0 rfl ?_
  refine X_aloadn 0 d1 rfl ?_
  refine X_alen (by decide) d2 ?_
  refine X_icmp_ne (t := 14) d3 rfl (fun h3 => ?_) (fun h3 => ?_)
  · exact X_none
  · refine X_iloadn 1 d14 rfl ?_
    refine X_newI d15 ac_int ?_
    refine X_bWr fun q15 _ => ?_
    refine X_bM fun M15 _ => ?_
    refine X_astoren (lv' := [(2, vr q15), (0, vr a0), (1, vi a1)]) d17 (by decide) rfl ?_
    refine X_aloadn 1 d18 rfl ?_
    refine X_iconst k_i_0 d19 ?_
    refine X_aloadn 0 d20 rfl ?_
    refine X_iconst k_i_0 d21 ?_
    refine X_aloadn 1 d22 rfl ?_
    refine X_alen (by decide) d23 ?_
    refine X_iloadn 2 d24 rfl ?_
    refine X_minI d25 mw_jArrays_304 ⟨by decide, by decide⟩ (Nat.le_of_ble_eq_true rfl) ?_
    refine X_copyI rfl d28 ⟨by decide, by decide⟩ (Nat.le_of_ble_eq_true rfl) (fun M28 => ?_)
    refine X_aloadn 0 d31 rfl ?_
    exact X_areturn d32 rfl (Or.inr ⟨_, rfl⟩) rfl

theorem ddJ_copyL : AllD (ib iJ_copyL) [(0, .iload_n 1, 1), (1, .aload_n 0, 1), (2, .arraylength, 1), (3, .if_icmp .ne 11, 3), (14, .iload_n 1, 1), (15, .newarray .long, 2), (17, .astore_n 2, 1), (18, .aload_n 0, 1), (19, .iconst 0, 1), (20, .aload_n 2, 1), (21, .iconst 0, 1), (22, .aload_n 0, 1), (23, .arraylength, 1), (24, .iload_n 1, 1), (25, .invokestatic 304, 3), (28, .invokestatic 150, 3), (31, .aload_n 2, 1), (32, .areturn, 1)] := allD_of (by decide +kernel)
def fJ_copyL (M : MM) (a0 : Nat) (a1 : Int32) : Option (Nat × MM) :=
  aL M a0 1 <|
  if a1 = (nI (mK M a0).2) then
    none
  else
    gd (¬ a1 < 0 ∧ a1.toNatClampNeg ≤ 60000000) <|
    bW (mz M) fun q15 =>
    bM (nw M 1 a1.toNatClampNeg) fun M15 =>
    aL M15 a0 1 <|
    aL M15 a0 1 <| aL M15 q15 1 <| gd (cpyOk M15 a0 q15 (0 : Int32) (0 : Int32) (mnI (nI (mK M15 a0).2) a1)) <|
    bM (sJr M15 q15 (va_cpy (mJ M15 a0) (mJ M15 q15) (0 : Int32).toNatClampNeg (0 : Int32).toNatClampNeg (mnI (nI (mK M15 a0).2) a1).toNatClampNeg)) fun M28 =>
    some (q15, M28)
set_option maxRecDepth 4000 in
theorem TJ_copyL (M : MM) (a0 : Nat) (a1 : Int32) : ∀ q, fJ_copyL M a0 a1 = some q → Run iJ_copyL [vr a0, vi a1] M (Lr q) := by
  obtain ⟨d0, d1, d2, d3, d14, d15, d17, d18, d19, d20, d21, d22, d23, d24, d25, d28, d31, d32, -⟩ := ddJ_copyL
  refine Run_of_X (by decide) (Nat.le_of_ble_eq_true rfl) ?_
  show X Lr iJ_copyL 0 [(0, vr a0), (1, vi a1)] [] M _
  unfold fJ_copyL
  refine X_iloadn 1 d0 rfl ?_
  refine X_aloadn 0 d1 rfl ?_
  refine X_alen (by decide) d2 ?_
  refine X_icmp_ne (t := 14) d3 rfl (fun h3 => ?_) (fun h3 => ?_)
  · exact X_none
  · refine X_iloadn 1 d14 rfl ?_
    refine X_newJ d15 ac_long ?_
    refine X_bWr fun q15 _ => ?_
    refine X_bM fun M15 _ => ?_
    refine X_astoren (lv' := [(2, vr q15), (0, vr a0), (1, vi a1)]) d17 (by decide) rfl ?_
    refine X_aloadn 1 d18 rfl ?_
    refine X_iconst k_i_0 d19 ?_
    refine X_aloadn 0 d20 rfl ?_
    refine X_iconst k_i_0 d21 ?_
    refine X_aloadn 1 d22 rfl ?_
    refine X_alen (by decide) d23 ?_
    refine X_iloadn 2 d24 rfl ?_
    refine X_minI d25 mw_jArrays_304 ⟨by decide, by decide⟩ (Nat.le_of_ble_eq_true rfl) ?_
    refine X_copyJ rfl d28 ⟨by decide, by decide⟩ (Nat.le_of_ble_eq_true rfl) (fun M28 => ?_)
    refine X_aloadn 0 d31 rfl ?_
    exact X_areturn d32 rfl (Or.inr ⟨_, rfl⟩) rfl

theorem ddJ_fillI_b5 : AllD (ib iJ_fillI) [(5, .iload_n 2, 1), (6, .iload_n 3, 1), (7, .if_icmp .ge 13, 3), (10, .aload_n 0, 1), (11, .iload_n 2, 1), (12, .iload_n 1, 1), (13, .iastore, 1), (14, .iinc 2 1, 3), (17, .goto (-12), 3), (20, .return_, 1)] := allD_of (by decide +kernel)
def fJ_fillI_b5_body (rc : MM → Nat → Int32 → Int32 → Int32 → Option MM) (M : MM) (a0 : Nat) (a1 : Int32) (a2 : Int32) (a3 : Int32) : Option MM :=
  if a3 ≤ a2 then
    some M
  else
    aA M a0 0 a2 <|
    bM (sI M a0 a2.toNatClampNeg a1) fun M13 =>
    rc M13 a0 a1 (a2 + (1 : Int32)) a3
def fJ_fillI_b5 : MM → Nat → Int32 → Int32 → Int32 → Option MM := LP5 (fJ_fillI_b5_body) FU
set_option maxRecDepth 4000 in
theorem TJ_fillI_b5 : ∀ (M : MM) (a0 : Nat) (a1 : Int32) (a2 : Int32) (a3 : Int32), X Lv iJ_fillI 5 [(0, vr a0), (1, vi a1), (2, vi a2), (3, vi a3)] [] M (fJ_fillI_b5 M a0 a1 a2 a3) := by
  obtain ⟨d5, d6, d7, d10, d11, d12, d13, d14, d17, d20, -⟩ := ddJ_fillI_b5
  refine LP5_i (P := fun M a0 a1 a2 a3 o => X Lv iJ_fillI 5 [(0, vr a0), (1, vi a1), (2, vi a2), (3, vi a3)] [] M o) (fun _ _ _ _ _ => X_none) (fun rc ih M a0 a1 a2 a3 => ?_) FU
  unfold fJ_fillI_b5_body
  refine X_iloadn 2 d5 rfl ?_
  refine X_iloadn 3 d6 rfl ?_
  refine X_icmp_ge (t := 20) d7 rfl (fun h7 => ?_) (fun h7 => ?_)
  · exact X_vreturn d20 rfl rfl
  · refine X_aloadn 0 d10 rfl ?_
    refine X_iloadn 2 d11 rfl ?_
    refine X_iloadn 1 d12 rfl ?_
    refine X_iastore d13 ?_
    refine X_bM fun M13 _ => ?_
    refine X_inc (lv' := [(2, vi (a2 + (1 : Int32))), (0, vr a0), (1, vi a1), (3, vi a3)]) 2 d14 k_i_1 rfl (by decide) rfl ?_
    refine X_goto (t := 5) d17 rfl ?_
    refine X_sub [1, 2, 0, 3] rfl ?_
    exact ih M13 a0 a1 (a2 + (1 : Int32)) a3

theorem ddJ_fillI : AllD (ib iJ_fillI) [(0, .iconst 0, 1), (1, .istore_n 2, 1), (2, .aload_n 0, 1), (3, .arraylength, 1), (4, .istore_n 3, 1)] := allD_of (by decide +kernel)
def fJ_fillI (M : MM) (a0 : Nat) (a1 : Int32) : Option MM :=
  aL M a0 0 <|
  bW (nI (mK M a0).2) fun v4 =>
  fJ_fillI_b5 M a0 a1 (0 : Int32) v4
set_option maxRecDepth 4000 in
theorem TJ_fillI (M : MM) (a0 : Nat) (a1 : Int32) : ∀ q, fJ_fillI M a0 a1 = some q → Run iJ_fillI [vr a0, vi a1] M (Lv q) := by
  obtain ⟨d0, d1, d2, d3, d4, -⟩ := ddJ_fillI
  refine Run_of_X (by decide) (Nat.le_of_ble_eq_true rfl) ?_
  show X Lv iJ_fillI 0 [(0, vr a0), (1, vi a1)] [] M _
  unfold fJ_fillI
  refine X_iconst k_i_0 d0 ?_
  refine X_istoren (lv' := [(2, vi (0 : Int32)), (0, vr a0), (1, vi a1)]) d1 (by decide) rfl ?_
  refine X_aloadn 1 d2 rfl ?_
  refine X_alen (by decide) d3 ?_
  refine X_bWi fun v4 _ => ?_
  refine X_istoren (lv' := [(3, vi v4), (2, vi (0 : Int32)), (0, vr a0), (1, vi a1)]) d4 (by decide) rfl ?_
  refine X_sub [2, 3, 1, 0] rfl ?_
  exact TJ_fillI_b5 M a0 a1 (0 : Int32) v4

theorem ddJ_fillL_b6 : AllD (ib iJ_fillL) [(6, .iload_n 3, 1), (7, .iload 4, 2), (9, .if_icmp .ge 13, 3), (12, .aload_n 0, 1), (13, .iload_n 3, 1), (14, .lload_n 1, 1), (15, .lastore, 1), (16, .iinc 3 1, 3), (19, .goto (-13), 3), (22, .return_, 1)] := allD_of (by decide +kernel)
def fJ_fillL_b6_body (rc : MM → Nat → Int64 → Int32 → Int32 → Option MM) (M : MM) (a0 : Nat) (a1 : Int64) (a3 : Int32) (a4 : Int32) : Option MM :=
  if a4 ≤ a3 then
    some M
  else
    aA M a0 1 a3 <|
    bM (sJ M a0 a3.toNatClampNeg a1) fun M15 =>
    rc M15 a0 a1 (a3 + (1 : Int32)) a4
def fJ_fillL_b6 : MM → Nat → Int64 → Int32 → Int32 → Option MM := LP5 (fJ_fillL_b6_body) FU
set_option maxRecDepth 4000 in
theorem TJ_fillL_b6 : ∀ (M : MM) (a0 : Nat) (a1 : Int64) (a3 : Int32) (a4 : Int32), X Lv iJ_fillL 6 [(0, vr a0), (1, vl a1), (3, vi a3), (4, vi a4)] [] M (fJ_fillL_b6 M a0 a1 a3 a4) := by
  obtain ⟨d6, d7, d9, d12, d13, d14, d15, d16, d19, d22, -⟩ := ddJ_fillL_b6
  refine LP5_i (P := fun M a0 a1 a3 a4 o => X Lv iJ_fillL 6 [(0, vr a0), (1, vl a1), (3, vi a3), (4, vi a4)] [] M o) (fun _ _ _ _ _ => X_none) (fun rc ih M a0 a1 a3 a4 => ?_) FU
  unfold fJ_fillL_b6_body
  refine X_iloadn 2 d6 rfl ?_
  refine X_iload 3 d7 rfl ?_
  refine X_icmp_ge (t := 22) d9 rfl (fun h9 => ?_) (fun h9 => ?_)
  · exact X_vreturn d22 rfl rfl
  · refine X_aloadn 0 d12 rfl ?_
    refine X_iloadn 2 d13 rfl ?_
    refine X_lloadn 1 d14 rfl ?_
    refine X_lastore d15 ?_
    refine X_bM fun M15 _ => ?_
    refine X_inc (lv' := [(3, vi (a3 + (1 : Int32))), (0, vr a0), (1, vl a1), (4, vi a4)]) 2 d16 k_i_1 rfl (by decide) rfl ?_
    refine X_goto (t := 6) d19 rfl ?_
    refine X_sub [1, 2, 0, 3] rfl ?_
    exact ih M15 a0 a1 (a3 + (1 : Int32)) a4

theorem ddJ_fillL : AllD (ib iJ_fillL) [(0, .iconst 0, 1), (1, .istore_n 3, 1), (2, .aload_n 0, 1), (3, .arraylength, 1), (4, .istore 4, 2)] := allD_of (by decide +kernel)
def fJ_fillL (M : MM) (a0 : Nat) (a1 : Int64) : Option MM :=
  aL M a0 1 <|
  bW (nI (mK M a0).2) fun v4 =>
  fJ_fillL_b6 M a0 a1 (0 : Int32) v4
set_option maxRecDepth 4000 in
theorem TJ_fillL (M : MM) (a0 : Nat) (a1 : Int64) : ∀ q, fJ_fillL M a0 a1 = some q → Run iJ_fillL [vr a0, vl a1] M (Lv q) := by
  obtain ⟨d0, d1, d2, d3, d4, -⟩ := ddJ_fillL
  refine Run_of_X (by decide) (Nat.le_of_ble_eq_true rfl) ?_
  show X Lv iJ_fillL 0 [(0, vr a0), (1, vl a1)] [] M _
  unfold fJ_fillL
  refine X_iconst k_i_0 d0 ?_
  refine X_istoren (lv' := [(3, vi (0 : Int32)), (0, vr a0), (1, vl a1)]) d1 (by decide) rfl ?_
  refine X_aloadn 1 d2 rfl ?_
  refine X_alen (by decide) d3 ?_
  refine X_bWi fun v4 _ => ?_
  refine X_istore (lv' := [(4, vi v4), (3, vi (0 : Int32)), (0, vr a0), (1, vl a1)]) d4 (by decide) rfl ?_
  refine X_sub [2, 3, 1, 0] rfl ?_
  exact TJ_fillL_b6 M a0 a1 (0 : Int32) v4

theorem dd0_forget : AllD (ib i0_forget) [(0, .aload_n 0, 1), (1, .iconst 0, 1), (2, .putfield 24, 3), (5, .return_, 1)] := allD_of (by decide +kernel)
def f0_forget (M : MM) (a0 : Nat) : Option MM :=
  aO M a0 0 <|
  bM (sI M a0 2 (0 : Int32)) fun M2 =>
  some M2
set_option maxRecDepth 4000 in
theorem T0_forget (M : MM) (a0 : Nat) : ∀ q, f0_forget M a0 = some q → Run i0_forget [vr a0] M (Lv q) := by
  obtain ⟨d0, d1, d2, d5, -⟩ := dd0_forget
  refine Run_of_X (by decide) (Nat.le_of_ble_eq_true rfl) ?_
  show X Lv i0_forget 0 [(0, vr a0)] [] M _
  unfold f0_forget
  refine X_aloadn 0 d0 rfl ?_
  refine X_iconst k_i_0 d1 ?_
  refine X_putI d2 fp_x0_24 ?_
  refine X_bM fun M2 _ => ?_
  exact X_vreturn d5 rfl rfl

theorem dd3_init_b14 : AllD (ib i3_init) [(14, .newarray .int, 2), (16, .putfield 9, 3), (19, .return_, 1)] := allD_of (by decide +kernel)
def f3_init_b14 (M : MM) (s0 : Int32) (s1 : Nat) : Option MM :=
  gd (¬ s0 < 0 ∧ s0.toNatClampNeg ≤ 60000000) <|
  bW (mz M) fun q14 =>
  bM (nw M 0 s0.toNatClampNeg) fun M14 =>
  aO M14 s1 3 <|
  bM (sR M14 s1 0 q14) fun M16 =>
  some M16
set_option maxRecDepth 4000 in
theorem T3_init_b14 : ∀ (M : MM) (s0 : Int32) (s1 : Nat), X Lv i3_init 14 [] [vi s0, vr s1] M (f3_init_b14 M s0 s1) := by
  obtain ⟨d14, d16, d19, -⟩ := dd3_init_b14
  intro M s0 s1
  unfold f3_init_b14
  refine X_newI d14 ac_int ?_
  refine X_bWr fun q14 _ => ?_
  refine X_bM fun M14 _ => ?_
  refine X_putR d16 fp_x3_9 (RefT.arr _) ?_
  refine X_bM fun M16 _ => ?_
  exact X_vreturn d19 rfl rfl

theorem dd3_init : AllD (ib i3_init) [(0, .aload_n 0, 1), (1, .invokespecial 3, 3), (4, .aload_n 0, 1), (5, .iload_n 1, 1), (6, .ifCond .ge 7, 3), (9, .iconst 0, 1), (10, .goto 4, 3), (13, .iload_n 1, 1)] := allD_of (by decide +kernel)
def f3_init (M : MM) (a0 : Nat) (a1 : Int32) : Option MM :=
  gd (a0 ≠ 0) <|
  if 0 ≤ a1 then
    f3_init_b14 M a1 a0
  else
    f3_init_b14 M (0 : Int32) a0
set_option maxRecDepth 4000 in
theorem T3_init (M : MM) (a0 : Nat) (a1 : Int32) : ∀ q, f3_init M a0 a1 = some q → Run i3_init [vr a0, vi a1] M (Lv q) := by
  obtain ⟨d0, d1, d4, d5, d6, d9, d10, d13, -⟩ := dd3_init
  refine Run_of_X (by decide) (Nat.le_of_ble_eq_true rfl) ?_
  show X Lv i3_init 0 [(0, vr a0), (1, vi a1)] [] M _
  unfold f3_init
  refine X_aloadn 0 d0 rfl ?_
  refine X_objInit d1 oi_x3_3 (by decide) (Nat.le_of_ble_eq_true rfl) ?_
  refine X_aloadn 0 d4 rfl ?_
  refine X_iloadn 1 d5 rfl ?_
  refine X_if_ge (t := 13) d6 rfl (fun h6 => ?_) (fun h6 => ?_)
  · refine X_iloadn 1 d13 rfl ?_
    refine X_sub [] rfl ?_
    exact T3_init_b14 M a1 a0
  · refine X_iconst k_i_0 d9 ?_
    refine X_goto (t := 14) d10 rfl ?_
    refine X_sub [] rfl ?_
    exact T3_init_b14 M (0 : Int32) a0

theorem dd0_init : AllD (ib i0_init) [(0, .aload_n 0, 1), (1, .invokespecial 5, 3), (4, .aload_n 0, 1), (5, .new 11, 3), (8, .dup, 1), (9, .sipush 516, 3), (12, .invokespecial 13, 3), (15, .putfield 16, 3), (18, .aload_n 0, 1), (19, .iconst 0, 1), (20, .putfield 20, 3), (23, .aload_n 0, 1), (24, .iconst 0, 1), (25, .putfield 24, 3), (28, .return_, 1)] := allD_of (by decide +kernel)
def f0_init (M : MM) (a0 : Nat) : Option MM :=
  gd (a0 ≠ 0) <|
  bW (mz M) fun q5 =>
  bM (nw M 6 1) fun M5 =>
  gd (q5 ≠ 0) <|
  cV (f3_init M5 q5 (516 : Int32)) fun M12 =>
  aO M12 a0 0 <|
  bM (sR M12 a0 0 q5) fun M15 =>
  aO M15 a0 0 <|
  bM (sI M15 a0 1 (0 : Int32)) fun M20 =>
  aO M20 a0 0 <|
  bM (sI M20 a0 2 (0 : Int32)) fun M25 =>
  some M25
set_option maxRecDepth 4000 in
theorem T0_init (M : MM) (a0 : Nat) : ∀ q, f0_init M a0 = some q → Run i0_init [vr a0] M (Lv q) := by
  obtain ⟨d0, d1, d4, d5, d8, d9, d12, d15, d18, d19, d20, d23, d24, d25, d28, -⟩ := dd0_init
  refine Run_of_X (by decide) (Nat.le_of_ble_eq_true rfl) ?_
  show X Lv i0_init 0 [(0, vr a0)] [] M _
  unfold f0_init
  refine X_aloadn 0 d0 rfl ?_
  refine X_objInit d1 oi_x0_5 (by decide) (Nat.le_of_ble_eq_true rfl) ?_
  refine X_aloadn 0 d4 rfl ?_
  refine X_new d5 nc_x0_11 ?_
  refine X_bWr fun q5 _ => ?_
  refine X_bM fun M5 _ => ?_
  refine X_dupr d8 ?_
  refine X_sipush k_s_516 d9 ?_
  refine X_cIv (as := [vi (516 : Int32)]) d12 ci_x0_13 ⟨by decide, by decide⟩ rfl (Nat.le_of_ble_eq_true rfl) (T3_init M5 q5 (516 : Int32)) (fun M12 _ => ?_)
  refine X_putRF d15 fp_x0_16 (RefT.obj _) rfl rfl ?_
  refine X_bM fun M15 _ => ?_
  refine X_aloadn 0 d18 rfl ?_
  refine X_iconst k_i_0 d19 ?_
  refine X_putI d20 fp_x0_20 ?_
  refine X_bM fun M20 _ => ?_
  refine X_aloadn 0 d23 rfl ?_
  refine X_iconst k_i_0 d24 ?_
  refine X_putI d25 fp_x0_24 ?_
  refine X_bM fun M25 _ => ?_
  exact X_vreturn d28 rfl rfl

theorem dd0_startOf : AllD (ib i0_startOf) [(0, .aload_n 0, 1), (1, .getfield 20, 3), (4, .iload_n 1, 1), (5, .iadd, 1), (6, .bipush 12, 2), (8, .irem, 1), (9, .bipush 43, 2), (11, .imul, 1), (12, .ireturn, 1)] := allD_of (by decide +kernel)
def f0_startOf (M : MM) (a0 : Nat) (a1 : Int32) : Option (Int32 × MM) :=
  aO M a0 0 <|
  gd (¬ (12 : Int32) = 0) <|
  some ((((mI M a0 1) + a1) - ((mI M a0 1) + a1) / (12 : Int32) * (12 : Int32)) * (43 : Int32), M)
set_option maxRecDepth 4000 in
theorem T0_startOf (M : MM) (a0 : Nat) (a1 : Int32) : ∀ q, f0_startOf M a0 a1 = some q → Run i0_startOf [vr a0, vi a1] M (Li q) := by
  obtain ⟨d0, d1, d4, d5, d6, d8, d9, d11, d12, -⟩ := dd0_startOf
  refine Run_of_X (by decide) (Nat.le_of_ble_eq_true rfl) ?_
  show X Li i0_startOf 0 [(0, vr a0), (1, vi a1)] [] M _
  unfold f0_startOf
  refine X_aloadn 0 d0 rfl ?_
  refine X_getI d1 fg_x0_20 ?_
  refine X_iloadn 1 d4 rfl ?_
  refine X_iadd d5 ?_
  refine X_bipush k_b_12 d6 ?_
  refine X_irem d8 ?_
  refine X_bipush k_b_43 d9 ?_
  refine X_imul d11 ?_
  exact X_ireturn d12 rfl rfl

theorem dd3_set : AllD (ib i3_set) [(0, .iload_n 1, 1), (1, .ifCond .lt 19, 3), (4, .iload_n 1, 1), (5, .aload_n 0, 1), (6, .getfield 9, 3), (9, .arraylength, 1), (10, .if_icmp .ge 10, 3), (13, .aload_n 0, 1), (14, .getfield 9, 3), (17, .iload_n 1, 1), (18, .iload_n 2, 1), (19, .iastore, 1), (20, .return_, 1)] := allD_of (by decide +kernel)
def f3_set (M : MM) (a0 : Nat) (a1 : Int32) (a2 : Int32) : Option MM :=
  if a1 < 0 then
    some M
  else
    aO M a0 3 <|
    aL M (mR M a0 0) 0 <|
    if (nI (mK M (mR M a0 0)).2) ≤ a1 then
      some M
    else
      aO M a0 3 <|
      aA M (mR M a0 0) 0 a1 <|
      bM (sI M (mR M a0 0) a1.toNatClampNeg a2) fun M19 =>
      some M19
set_option maxRecDepth 4000 in
theorem T3_set (M : MM) (a0 : Nat) (a1 : Int32) (a2 : Int32) : ∀ q, f3_set M a0 a1 a2 = some q → Run i3_set [vr a0, vi a1, vi a2] M (Lv q) := by
  obtain ⟨d0, d1, d4, d5, d6, d9, d10, d13, d14, d17, d18, d19, d20, -⟩ := dd3_set
  refine Run_of_X (by decide) (Nat.le_of_ble_eq_true rfl) ?_
  show X Lv i3_set 0 [(0, vr a0), (1, vi a1), (2, vi a2)] [] M _
  unfold f3_set
  refine X_iloadn 1 d0 rfl ?_
  refine X_if_lt (t := 20) d1 rfl (fun h1 => ?_) (fun h1 => ?_)
  · exact X_vreturn d20 rfl rfl
  · refine X_iloadn 1 d4 rfl ?_
    refine X_aloadn 0 d5 rfl ?_
    refine X_getR d6 fg_x3_9 ?_
    refine X_alen (by decide) d9 ?_
    refine X_icmp_ge (t := 20) d10 rfl (fun h10 => ?_) (fun h10 => ?_)
    · exact X_vreturn d20 rfl rfl
    · refine X_aloadn 0 d13 rfl ?_
      refine X_getR d14 fg_x3_9 ?_
      refine X_iloadn 1 d17 rfl ?_
      refine X_iloadn 2 d18 rfl ?_
      refine X_iastore d19 ?_
      refine X_bM fun M19 _ => ?_
      exact X_vreturn d20 rfl rfl

theorem dd3_get : AllD (ib i3_get) [(0, .iload_n 1, 1), (1, .ifCond .lt 21, 3), (4, .iload_n 1, 1), (5, .aload_n 0, 1), (6, .getfield 9, 3), (9, .arraylength, 1), (10, .if_icmp .ge 12, 3), (13, .aload_n 0, 1), (14, .getfield 9, 3), (17, .iload_n 1, 1), (18, .iaload, 1), (19, .goto 4, 3), (22, .iconst (-1), 1), (23, .ireturn, 1)] := allD_of (by decide +kernel)
def f3_get (M : MM) (a0 : Nat) (a1 : Int32) : Option (Int32 × MM) :=
  if a1 < 0 then
    some ((-1 : Int32), M)
  else
    aO M a0 3 <|
    aL M (mR M a0 0) 0 <|
    if (nI (mK M (mR M a0 0)).2) ≤ a1 then
      some ((-1 : Int32), M)
    else
      aO M a0 3 <|
      aA M (mR M a0 0) 0 a1 <|
      some (mI M (mR M a0 0) a1.toNatClampNeg, M)
set_option maxRecDepth 4000 in
theorem T3_get (M : MM) (a0 : Nat) (a1 : Int32) : ∀ q, f3_get M a0 a1 = some q → Run i3_get [vr a0, vi a1] M (Li q) := by
  obtain ⟨d0, d1, d4, d5, d6, d9, d10, d13, d14, d17, d18, d19, d22, d23, -⟩ := dd3_get
  refine Run_of_X (by decide) (Nat.le_of_ble_eq_true rfl) ?_
  show X Li i3_get 0 [(0, vr a0), (1, vi a1)] [] M _
  unfold f3_get
  refine X_iloadn 1 d0 rfl ?_
  refine X_if_lt (t := 22) d1 rfl (fun h1 => ?_) (fun h1 => ?_)
  · refine X_iconst k_i_m1 d22 ?_
    exact X_ireturn d23 rfl rfl
  · refine X_iloadn 1 d4 rfl ?_
    refine X_aloadn 0 d5 rfl ?_
    refine X_getR d6 fg_x3_9 ?_
    refine X_alen (by decide) d9 ?_
    refine X_icmp_ge (t := 22) d10 rfl (fun h10 => ?_) (fun h10 => ?_)
    · refine X_iconst k_i_m1 d22 ?_
      exact X_ireturn d23 rfl rfl
    · refine X_aloadn 0 d13 rfl ?_
      refine X_getR d14 fg_x3_9 ?_
      refine X_iloadn 1 d17 rfl ?_
      refine X_iaload d18 ?_
      refine X_goto (t := 23) d19 rfl ?_
      exact X_ireturn d23 rfl rfl

theorem dd6_signAt : AllD (ib i6_signAt) [(0, .aload_n 0, 1), (1, .getfield 26, 3), (4, .iload_n 1, 1), (5, .invokevirtual 40, 3), (8, .ireturn, 1)] := allD_of (by decide +kernel)
def f6_signAt (M : MM) (a0 : Nat) (a1 : Int32) : Option (Int32 × MM) :=
  aO M a0 6 <|
  aO M (mR M a0 1) 3 <|
  cI (f3_get M (mR M a0 1) a1) fun r5 M5 =>
  some (r5, M5)
set_option maxRecDepth 4000 in
theorem T6_signAt (M : MM) (a0 : Nat) (a1 : Int32) : ∀ q, f6_signAt M a0 a1 = some q → Run i6_signAt [vr a0, vi a1] M (Li q) := by
  obtain ⟨d0, d1, d4, d5, d8, -⟩ := dd6_signAt
  refine Run_of_X (by decide) (Nat.le_of_ble_eq_true rfl) ?_
  show X Li i6_signAt 0 [(0, vr a0), (1, vi a1)] [] M _
  unfold f6_signAt
  refine X_aloadn 0 d0 rfl ?_
  refine X_getR d1 fg_x6_26 ?_
  refine X_iloadn 1 d4 rfl ?_
  refine X_cVi (as := [vi a1]) d5 cv_x6_40 ⟨by decide, by decide⟩ rfl (Nat.le_of_ble_eq_true rfl) (T3_get M (mR M a0 1) a1) (fun r5 M5 _ => ?_)
  exact X_ireturn d8 rfl rfl

theorem dd0_keep_b83 : AllD (ib i0_keep) [(83, .iload 4, 2), (85, .aload_n 1, 1), (86, .getfield 40, 3), (89, .if_icmp .ge 28, 3), (92, .aload_n 0, 1), (93, .getfield 16, 3), (96, .iload_n 3, 1), (97, .iconst 3, 1), (98, .iadd, 1), (99, .iload 4, 2), (101, .iadd, 1), (102, .aload_n 1, 1), (103, .iload 4, 2), (105, .invokevirtual 43, 3), (108, .invokevirtual 36, 3), (111, .iinc 4 1, 3), (114, .goto (-31), 3), (117, .aload_n 0, 1), (118, .dup, 1), (119, .getfield 24, 3), (122, .iconst 1, 1), (123, .iadd, 1), (124, .putfield 24, 3), (127, .return_, 1)] := allD_of (by decide +kernel)
def f0_keep_b83_body (rc : MM → Nat → Nat → Int32 → Int32 → Option MM) (M : MM) (a0 : Nat) (a1 : Nat) (a3 : Int32) (a4 : Int32) : Option MM :=
  aO M a1 6 <|
  if (mI M a1 3) ≤ a4 then
    aO M a0 0 <|
    aO M a0 0 <|
    bM (sI M a0 2 ((mI M a0 2) + (1 : Int32))) fun M124 =>
    some M124
  else
    aO M a0 0 <|
    aO M a1 6 <|
    cI (f6_signAt M a1 a4) fun r105 M105 =>
    aO M105 (mR M a0 0) 3 <|
    cV (f3_set M105 (mR M a0 0) ((a3 + (3 : Int32)) + a4) r105) fun M108 =>
    rc M108 a0 a1 a3 (a4 + (1 : Int32))
def f0_keep_b83 : MM → Nat → Nat → Int32 → Int32 → Option MM := LP5 (f0_keep_b83_body) FU
set_option maxRecDepth 4000 in
theorem T0_keep_b83 : ∀ (M : MM) (a0 : Nat) (a1 : Nat) (a3 : Int32) (a4 : Int32), X Lv i0_keep 83 [(0, vr a0), (1, vr a1), (3, vi a3), (4, vi a4)] [] M (f0_keep_b83 M a0 a1 a3 a4) := by
  obtain ⟨d83, d85, d86, d89, d92, d93, d96, d97, d98, d99, d101, d102, d103, d105, d108, d111, d114, d117, d118, d119, d122, d123, d124, d127, -⟩ := dd0_keep_b83
  refine LP5_i (P := fun M a0 a1 a3 a4 o => X Lv i0_keep 83 [(0, vr a0), (1, vr a1), (3, vi a3), (4, vi a4)] [] M o) (fun _ _ _ _ _ => X_none) (fun rc ih M a0 a1 a3 a4 => ?_) FU
  unfold f0_keep_b83_body
  refine X_iload 3 d83 rfl ?_
  refine X_aloadn 1 d85 rfl ?_
  refine X_getI d86 fg_x0_40 ?_
  refine X_icmp_ge (t := 117) d89 rfl (fun h89 => ?_) (fun h89 => ?_)
  · refine X_aloadn 0 d117 rfl ?_
    refine X_dupr d118 ?_
    refine X_getI d119 fg_x0_24 ?_
    refine X_iconst k_i_1 d122 ?_
    refine X_iadd d123 ?_
    refine X_putI d124 fp_x0_24 ?_
    refine X_bM fun M124 _ => ?_
    exact X_vreturn d127 rfl rfl
  · refine X_aloadn 0 d92 rfl ?_
    refine X_getR d93 fg_x0_16 ?_
    refine X_iloadn 2 d96 rfl ?_
    refine X_iconst k_i_3 d97 ?_
    refine X_iadd d98 ?_
    refine X_iload 3 d99 rfl ?_
    refine X_iadd d101 ?_
    refine X_aloadn 1 d102 rfl ?_
    refine X_iload 3 d103 rfl ?_
    refine X_cVi (as := [vi a4]) d105 cv_x0_43 ⟨by decide, by decide⟩ rfl (Nat.le_of_ble_eq_true rfl) (T6_signAt M a1 a4) (fun r105 M105 _ => ?_)
    refine X_cVv (as := [vi ((a3 + (3 : Int32)) + a4), vi r105]) d108 cv_x0_36 ⟨by decide, by decide⟩ rfl (Nat.le_of_ble_eq_true rfl) (T3_set M105 (mR M a0 0) ((a3 + (3 : Int32)) + a4) r105) (fun M108 _ => ?_)
    refine X_inc (lv' := [(4, vi (a4 + (1 : Int32))), (0, vr a0), (1, vr a1), (3, vi a3)]) 3 d111 k_i_1 rfl (by decide) rfl ?_
    refine X_goto (t := 83) d114 rfl ?_
    refine X_sub [1, 2, 3, 0] rfl ?_
    exact ih M108 a0 a1 a3 (a4 + (1 : Int32))

theorem dd0_keep_b32 : AllD (ib i0_keep) [(32, .aload_n 0, 1), (33, .aload_n 0, 1), (34, .getfield 24, 3), (37, .invokevirtual 27, 3), (40, .istore_n 3, 1), (41, .aload_n 0, 1), (42, .getfield 16, 3), (45, .iload_n 3, 1), (46, .iconst 0, 1), (47, .iadd, 1), (48, .aload_n 1, 1), (49, .getfield 31, 3), (52, .invokevirtual 36, 3), (55, .aload_n 0, 1), (56, .getfield 16, 3), (59, .iload_n 3, 1), (60, .iconst 1, 1), (61, .iadd, 1), (62, .aload_n 1, 1), (63, .getfield 40, 3), (66, .invokevirtual 36, 3), (69, .aload_n 0, 1), (70, .getfield 16, 3), (73, .iload_n 3, 1), (74, .iconst 2, 1), (75, .iadd, 1), (76, .iload_n 2, 1), (77, .invokevirtual 36, 3), (80, .iconst 0, 1), (81, .istore 4, 2)] := allD_of (by decide +kernel)
def f0_keep_b32 (M : MM) (a0 : Nat) (a1 : Nat) (a2 : Int32) : Option MM :=
  aO M a0 0 <|
  aO M a0 0 <|
  cI (f0_startOf M a0 (mI M a0 2)) fun r37 M37 =>
  aO M37 a0 0 <|
  aO M37 a1 6 <|
  aO M37 (mR M37 a0 0) 3 <|
  cV (f3_set M37 (mR M37 a0 0) (r37 + (0 : Int32)) (mI M37 a1 2)) fun M52 =>
  aO M52 a0 0 <|
  aO M52 a1 6 <|
  aO M52 (mR M52 a0 0) 3 <|
  cV (f3_set M52 (mR M52 a0 0) (r37 + (1 : Int32)) (mI M52 a1 3)) fun M66 =>
  aO M66 a0 0 <|
  aO M66 (mR M66 a0 0) 3 <|
  cV (f3_set M66 (mR M66 a0 0) (r37 + (2 : Int32)) a2) fun M77 =>
  f0_keep_b83 M77 a0 a1 r37 (0 : Int32)
set_option maxRecDepth 4000 in
theorem T0_keep_b32 : ∀ (M : MM) (a0 : Nat) (a1 : Nat) (a2 : Int32), X Lv i0_keep 32 [(0, vr a0), (1, vr a1), (2, vi a2)] [] M (f0_keep_b32 M a0 a1 a2) := by
  obtain ⟨d32, d33, d34, d37, d40, d41, d42, d45, d46, d47, d48, d49, d52, d55, d56, d59, d60, d61, d62, d63, d66, d69, d70, d73, d74, d75, d76, d77, d80, d81, -⟩ := dd0_keep_b32
  intro M a0 a1 a2
  unfold f0_keep_b32
  refine X_aloadn 0 d32 rfl ?_
  refine X_aloadn 0 d33 rfl ?_
  refine X_getI d34 fg_x0_24 ?_
  refine X_cVi (as := [vi (mI M a0 2)]) d37 cv_x0_27 ⟨by decide, by decide⟩ rfl (Nat.le_of_ble_eq_true rfl) (T0_startOf M a0 (mI M a0 2)) (fun r37 M37 _ => ?_)
  refine X_istoren (lv' := [(3, vi r37), (0, vr a0), (1, vr a1), (2, vi a2)]) d40 (by decide) rfl ?_
  refine X_aloadn 1 d41 rfl ?_
  refine X_getR d42 fg_x0_16 ?_
  refine X_iloadn 0 d45 rfl ?_
  refine X_iconst k_i_0 d46 ?_
  refine X_iadd d47 ?_
  refine X_aloadn 2 d48 rfl ?_
  refine X_getI d49 fg_x0_31 ?_
  refine X_cVv (as := [vi (r37 + (0 : Int32)), vi (mI M37 a1 2)]) d52 cv_x0_36 ⟨by decide, by decide⟩ rfl (Nat.le_of_ble_eq_true rfl) (T3_set M37 (mR M37 a0 0) (r37 + (0 : Int32)) (mI M37 a1 2)) (fun M52 _ => ?_)
  refine X_aloadn 1 d55 rfl ?_
  refine X_getR d56 fg_x0_16 ?_
  refine X_iloadn 0 d59 rfl ?_
  refine X_iconst k_i_1 d60 ?_
  refine X_iadd d61 ?_
  refine X_aloadn 2 d62 rfl ?_
  refine X_getI d63 fg_x0_40 ?_
  refine X_cVv (as := [vi (r37 + (1 : Int32)), vi (mI M52 a1 3)]) d66 cv_x0_36 ⟨by decide, by decide⟩ rfl (Nat.le_of_ble_eq_true rfl) (T3_set M52 (mR M52 a0 0) (r37 + (1 : Int32)) (mI M52 a1 3)) (fun M66 _ => ?_)
  refine X_aloadn 1 d69 rfl ?_
  refine X_getR d70 fg_x0_16 ?_
  refine X_iloadn 0 d73 rfl ?_
  refine X_iconst k_i_2 d74 ?_
  refine X_iadd d75 ?_
  refine X_iloadn 3 d76 rfl ?_
  refine X_cVv (as := [vi (r37 + (2 : Int32)), vi a2]) d77 cv_x0_36 ⟨by decide, by decide⟩ rfl (Nat.le_of_ble_eq_true rfl) (T3_set M66 (mR M66 a0 0) (r37 + (2 : Int32)) a2) (fun M77 _ => ?_)
  refine X_iconst k_i_0 d80 ?_
  refine X_istore (lv' := [(4, vi (0 : Int32)), (3, vi r37), (0, vr a0), (1, vr a1), (2, vi a2)]) d81 (by decide) rfl ?_
  refine X_sub [2, 3, 1, 0] rfl ?_
  exact T0_keep_b83 M77 a0 a1 r37 (0 : Int32)

theorem dd0_keep : AllD (ib i0_keep) [(0, .aload_n 0, 1), (1, .getfield 24, 3), (4, .bipush 12, 2), (6, .if_icmp .ne 26, 3), (9, .aload_n 0, 1), (10, .aload_n 0, 1), (11, .getfield 20, 3), (14, .iconst 1, 1), (15, .iadd, 1), (16, .bipush 12, 2), (18, .irem, 1), (19, .putfield 20, 3), (22, .aload_n 0, 1), (23, .dup, 1), (24, .getfield 24, 3), (27, .iconst 1, 1), (28, .isub, 1), (29, .putfield 24, 3)] := allD_of (by decide +kernel)
def f0_keep (M : MM) (a0 : Nat) (a1 : Nat) (a2 : Int32) : Option MM :=
  aO M a0 0 <|
  if (mI M a0 2) = (12 : Int32) then
    aO M a0 0 <|
    gd (¬ (12 : Int32) = 0) <|
    aO M a0 0 <|
    bM (sI M a0 1 (((mI M a0 1) + (1 : Int32)) - ((mI M a0 1) + (1 : Int32)) / (12 : Int32) * (12 : Int32))) fun M19 =>
    aO M19 a0 0 <|
    aO M19 a0 0 <|
    bM (sI M19 a0 2 ((mI M19 a0 2) - (1 : Int32))) fun M29 =>
    f0_keep_b32 M29 a0 a1 a2
  else
    f0_keep_b32 M a0 a1 a2
set_option maxRecDepth 4000 in
theorem T0_keep (M : MM) (a0 : Nat) (a1 : Nat) (a2 : Int32) : ∀ q, f0_keep M a0 a1 a2 = some q → Run i0_keep [vr a0, vr a1, vi a2] M (Lv q) := by
  obtain ⟨d0, d1, d4, d6, d9, d10, d11, d14, d15, d16, d18, d19, d22, d23, d24, d27, d28, d29, -⟩ := dd0_keep
  refine Run_of_X (by decide) (Nat.le_of_ble_eq_true rfl) ?_
  show X Lv i0_keep 0 [(0, vr a0), (1, vr a1), (2, vi a2)] [] M _
  unfold f0_keep
  refine X_aloadn 0 d0 rfl ?_
  refine X_getI d1 fg_x0_24 ?_
  refine X_bipush k_b_12 d4 ?_
  refine X_icmp_ne (t := 32) d6 rfl (fun h6 => ?_) (fun h6 => ?_)
  · refine X_aloadn 0 d9 rfl ?_
    refine X_aloadn 0 d10 rfl ?_
    refine X_getI d11 fg_x0_20 ?_
    refine X_iconst k_i_1 d14 ?_
    refine X_iadd d15 ?_
    refine X_bipush k_b_12 d16 ?_
    refine X_irem d18 ?_
    refine X_putI d19 fp_x0_20 ?_
    refine X_bM fun M19 _ => ?_
    refine X_aloadn 0 d22 rfl ?_
    refine X_dupr d23 ?_
    refine X_getI d24 fg_x0_24 ?_
    refine X_iconst k_i_1 d27 ?_
    refine X_isub d28 ?_
    refine X_putI d29 fp_x0_24 ?_
    refine X_bM fun M29 _ => ?_
    exact T0_keep_b32 M29 a0 a1 a2
  · exact T0_keep_b32 M a0 a1 a2

theorem dd6_forget : AllD (ib i6_forget) [(0, .aload_n 0, 1), (1, .iconst (-1), 1), (2, .putfield 9, 3), (5, .aload_n 0, 1), (6, .iconst 0, 1), (7, .putfield 15, 3), (10, .return_, 1)] := allD_of (by decide +kernel)
def f6_forget (M : MM) (a0 : Nat) : Option MM :=
  aO M a0 6 <|
  bM (sI M a0 2 (-1 : Int32)) fun M2 =>
  aO M2 a0 6 <|
  bM (sI M2 a0 3 (0 : Int32)) fun M7 =>
  some M7
set_option maxRecDepth 4000 in
theorem T6_forget (M : MM) (a0 : Nat) : ∀ q, f6_forget M a0 = some q → Run i6_forget [vr a0] M (Lv q) := by
  obtain ⟨d0, d1, d2, d5, d6, d7, d10, -⟩ := dd6_forget
  refine Run_of_X (by decide) (Nat.le_of_ble_eq_true rfl) ?_
  show X Lv i6_forget 0 [(0, vr a0)] [] M _
  unfold f6_forget
  refine X_aloadn 0 d0 rfl ?_
  refine X_iconst k_i_m1 d1 ?_
  refine X_putI d2 fp_x6_9 ?_
  refine X_bM fun M2 _ => ?_
  refine X_aloadn 0 d5 rfl ?_
  refine X_iconst k_i_0 d6 ?_
  refine X_putI d7 fp_x6_15 ?_
  refine X_bM fun M7 _ => ?_
  exact X_vreturn d10 rfl rfl

theorem dd6_push : AllD (ib i6_push) [(0, .aload_n 0, 1), (1, .getfield 15, 3), (4, .aload_n 0, 1), (5, .getfield 18, 3), (8, .if_icmp .ge 25, 3), (11, .aload_n 0, 1), (12, .getfield 26, 3), (15, .aload_n 0, 1), (16, .getfield 15, 3), (19, .iload_n 1, 1), (20, .invokevirtual 43, 3), (23, .aload_n 0, 1), (24, .dup, 1), (25, .getfield 15, 3), (28, .iconst 1, 1), (29, .iadd, 1), (30, .putfield 15, 3), (33, .return_, 1)] := allD_of (by decide +kernel)
def f6_push (M : MM) (a0 : Nat) (a1 : Int32) : Option MM :=
  aO M a0 6 <|
  aO M a0 6 <|
  if (mI M a0 0) ≤ (mI M a0 3) then
    some M
  else
    aO M a0 6 <|
    aO M a0 6 <|
    aO M (mR M a0 1) 3 <|
    cV (f3_set M (mR M a0 1) (mI M a0 3) a1) fun M20 =>
    aO M20 a0 6 <|
    aO M20 a0 6 <|
    bM (sI M20 a0 3 ((mI M20 a0 3) + (1 : Int32))) fun M30 =>
    some M30
set_option maxRecDepth 4000 in
theorem T6_push (M : MM) (a0 : Nat) (a1 : Int32) : ∀ q, f6_push M a0 a1 = some q → Run i6_push [vr a0, vi a1] M (Lv q) := by
  obtain ⟨d0, d1, d4, d5, d8, d11, d12, d15, d16, d19, d20, d23, d24, d25, d28, d29, d30, d33, -⟩ := dd6_push
  refine Run_of_X (by decide) (Nat.le_of_ble_eq_true rfl) ?_
  show X Lv i6_push 0 [(0, vr a0), (1, vi a1)] [] M _
  unfold f6_push
  refine X_aloadn 0 d0 rfl ?_
  refine X_getI d1 fg_x6_15 ?_
  refine X_aloadn 0 d4 rfl ?_
  refine X_getI d5 fg_x6_18 ?_
  refine X_icmp_ge (t := 33) d8 rfl (fun h8 => ?_) (fun h8 => ?_)
  · exact X_vreturn d33 rfl rfl
  · refine X_aloadn 0 d11 rfl ?_
    refine X_getR d12 fg_x6_26 ?_
    refine X_aloadn 0 d15 rfl ?_
    refine X_getI d16 fg_x6_15 ?_
    refine X_iloadn 1 d19 rfl ?_
    refine X_cVv (as := [vi (mI M a0 3), vi a1]) d20 cv_x6_43 ⟨by decide, by decide⟩ rfl (Nat.le_of_ble_eq_true rfl) (T3_set M (mR M a0 1) (mI M a0 3) a1) (fun M20 _ => ?_)
    refine X_aloadn 0 d23 rfl ?_
    refine X_dupr d24 ?_
    refine X_getI d25 fg_x6_15 ?_
    refine X_iconst k_i_1 d28 ?_
    refine X_iadd d29 ?_
    refine X_putI d30 fp_x6_15 ?_
    refine X_bM fun M30 _ => ?_
    exact X_vreturn d33 rfl rfl

theorem dd0_takeBack_b37 : AllD (ib i0_takeBack) [(37, .iload 4, 2), (39, .iload_n 3, 1), (40, .if_icmp .ge 26, 3), (43, .aload_n 1, 1), (44, .aload_n 0, 1), (45, .getfield 16, 3), (48, .iload_n 2, 1), (49, .iconst 3, 1), (50, .iadd, 1), (51, .iload 4, 2), (53, .iadd, 1), (54, .invokevirtual 46, 3), (57, .invokevirtual 52, 3), (60, .iinc 4 1, 3), (63, .goto (-26), 3), (66, .aload_n 1, 1), (67, .aload_n 0, 1), (68, .getfield 16, 3), (71, .iload_n 2, 1), (72, .iconst 0, 1), (73, .iadd, 1), (74, .invokevirtual 46, 3), (77, .putfield 31, 3), (80, .aload_n 0, 1), (81, .getfield 16, 3), (84, .iload_n 2, 1), (85, .iconst 2, 1), (86, .iadd, 1), (87, .invokevirtual 46, 3), (90, .ireturn, 1)] := allD_of (by decide +kernel)
def f0_takeBack_b37_body (rc : MM → Nat → Nat → Int32 → Int32 → Int32 → Option (Int32 × MM)) (M : MM) (a0 : Nat) (a1 : Nat) (a2 : Int32) (a3 : Int32) (a4 : Int32) : Option (Int32 × MM) :=
  if a3 ≤ a4 then
    aO M a0 0 <|
    aO M (mR M a0 0) 3 <|
    cI (f3_get M (mR M a0 0) (a2 + (0 : Int32))) fun r74 M74 =>
    aO M74 a1 6 <|
    bM (sI M74 a1 2 r74) fun M77 =>
    aO M77 a0 0 <|
    aO M77 (mR M77 a0 0) 3 <|
    cI (f3_get M77 (mR M77 a0 0) (a2 + (2 : Int32))) fun r87 M87 =>
    some (r87, M87)
  else
    aO M a0 0 <|
    aO M (mR M a0 0) 3 <|
    cI (f3_get M (mR M a0 0) ((a2 + (3 : Int32)) + a4)) fun r54 M54 =>
    aO M54 a1 6 <|
    cV (f6_push M54 a1 r54) fun M57 =>
    rc M57 a0 a1 a2 a3 (a4 + (1 : Int32))
def f0_takeBack_b37 : MM → Nat → Nat → Int32 → Int32 → Int32 → Option (Int32 × MM) := LP6 (f0_takeBack_b37_body) FU
set_option maxRecDepth 4000 in
theorem T0_takeBack_b37 : ∀ (M : MM) (a0 : Nat) (a1 : Nat) (a2 : Int32) (a3 : Int32) (a4 : Int32), X Li i0_takeBack 37 [(0, vr a0), (1, vr a1), (2, vi a2), (3, vi a3), (4, vi a4)] [] M (f0_takeBack_b37 M a0 a1 a2 a3 a4) := by
  obtain ⟨d37, d39, d40, d43, d44, d45, d48, d49, d50, d51, d53, d54, d57, d60, d63, d66, d67, d68, d71, d72, d73, d74, d77, d80, d81, d84, d85, d86, d87, d90, -⟩ := dd0_takeBack_b37
  refine LP6_i (P := fun M a0 a1 a2 a3 a4 o => X Li i0_takeBack 37 [(0, vr a0), (1, vr a1), (2, vi a2), (3, vi a3), (4, vi a4)] [] M o) (fun _ _ _ _ _ _ => X_none) (fun rc ih M a0 a1 a2 a3 a4 => ?_) FU
  unfold f0_takeBack_b37_body
  refine X_iload 4 d37 rfl ?_
  refine X_iloadn 3 d39 rfl ?_
  refine X_icmp_ge (t := 66) d40 rfl (fun h40 => ?_) (fun h40 => ?_)
  · refine X_aloadn 1 d66 rfl ?_
    refine X_aloadn 0 d67 rfl ?_
    refine X_getR d68 fg_x0_16 ?_
    refine X_iloadn 2 d71 rfl ?_
    refine X_iconst k_i_0 d72 ?_
    refine X_iadd d73 ?_
    refine X_cVi (as := [vi (a2 + (0 : Int32))]) d74 cv_x0_46 ⟨by decide, by decide⟩ rfl (Nat.le_of_ble_eq_true rfl) (T3_get M (mR M a0 0) (a2 + (0 : Int32))) (fun r74 M74 _ => ?_)
    refine X_putI d77 fp_x0_31 ?_
    refine X_bM fun M77 _ => ?_
    refine X_aloadn 0 d80 rfl ?_
    refine X_getR d81 fg_x0_16 ?_
    refine X_iloadn 2 d84 rfl ?_
    refine X_iconst k_i_2 d85 ?_
    refine X_iadd d86 ?_
    refine X_cVi (as := [vi (a2 + (2 : Int32))]) d87 cv_x0_46 ⟨by decide, by decide⟩ rfl (Nat.le_of_ble_eq_true rfl) (T3_get M77 (mR M77 a0 0) (a2 + (2 : Int32))) (fun r87 M87 _ => ?_)
    exact X_ireturn d90 rfl rfl
  · refine X_aloadn 1 d43 rfl ?_
    refine X_aloadn 0 d44 rfl ?_
    refine X_getR d45 fg_x0_16 ?_
    refine X_iloadn 2 d48 rfl ?_
    refine X_iconst k_i_3 d49 ?_
    refine X_iadd d50 ?_
    refine X_iload 4 d51 rfl ?_
    refine X_iadd d53 ?_
    refine X_cVi (as := [vi ((a2 + (3 : Int32)) + a4)]) d54 cv_x0_46 ⟨by decide, by decide⟩ rfl (Nat.le_of_ble_eq_true rfl) (T3_get M (mR M a0 0) ((a2 + (3 : Int32)) + a4)) (fun r54 M54 _ => ?_)
    refine X_cVv (as := [vi r54]) d57 cv_x0_52 ⟨by decide, by decide⟩ rfl (Nat.le_of_ble_eq_true rfl) (T6_push M54 a1 r54) (fun M57 _ => ?_)
    refine X_inc (lv' := [(4, vi (a4 + (1 : Int32))), (0, vr a0), (1, vr a1), (2, vi a2), (3, vi a3)]) 4 d60 k_i_1 rfl (by decide) rfl ?_
    refine X_goto (t := 37) d63 rfl ?_
    refine X_sub [1, 2, 3, 4, 0] rfl ?_
    exact ih M57 a0 a1 a2 a3 (a4 + (1 : Int32))

theorem dd0_takeBack : AllD (ib i0_takeBack) [(0, .aload_n 0, 1), (1, .dup, 1), (2, .getfield 24, 3), (5, .iconst 1, 1), (6, .isub, 1), (7, .putfield 24, 3), (10, .aload_n 0, 1), (11, .aload_n 0, 1), (12, .getfield 24, 3), (15, .invokevirtual 27, 3), (18, .istore_n 2, 1), (19, .aload_n 0, 1), (20, .getfield 16, 3), (23, .iload_n 2, 1), (24, .iconst 1, 1), (25, .iadd, 1), (26, .invokevirtual 46, 3), (29, .istore_n 3, 1), (30, .aload_n 1, 1), (31, .invokevirtual 49, 3), (34, .iconst 0, 1), (35, .istore 4, 2)] := allD_of (by decide +kernel)
def f0_takeBack (M : MM) (a0 : Nat) (a1 : Nat) : Option (Int32 × MM) :=
  aO M a0 0 <|
  aO M a0 0 <|
  bM (sI M a0 2 ((mI M a0 2) - (1 : Int32))) fun M7 =>
  aO M7 a0 0 <|
  aO M7 a0 0 <|
  cI (f0_startOf M7 a0 (mI M7 a0 2)) fun r15 M15 =>
  aO M15 a0 0 <|
  aO M15 (mR M15 a0 0) 3 <|
  cI (f3_get M15 (mR M15 a0 0) (r15 + (1 : Int32))) fun r26 M26 =>
  aO M26 a1 6 <|
  cV (f6_forget M26 a1) fun M31 =>
  f0_takeBack_b37 M31 a0 a1 r15 r26 (0 : Int32)
set_option maxRecDepth 4000 in
theorem T0_takeBack (M : MM) (a0 : Nat) (a1 : Nat) : ∀ q, f0_takeBack M a0 a1 = some q → Run i0_takeBack [vr a0, vr a1] M (Li q) := by
  obtain ⟨d0, d1, d2, d5, d6, d7, d10, d11, d12, d15, d18, d19, d20, d23, d24, d25, d26, d29, d30, d31, d34, d35, -⟩ := dd0_takeBack
  refine Run_of_X (by decide) (Nat.le_of_ble_eq_true rfl) ?_
  show X Li i0_takeBack 0 [(0, vr a0), (1, vr a1)] [] M _
  unfold f0_takeBack
  refine X_aloadn 0 d0 rfl ?_
  refine X_dupr d1 ?_
  refine X_getI d2 fg_x0_24 ?_
  refine X_iconst k_i_1 d5 ?_
  refine X_isub d6 ?_
  refine X_putI d7 fp_x0_24 ?_
  refine X_bM fun M7 _ => ?_
  refine X_aloadn 0 d10 rfl ?_
  refine X_aloadn 0 d11 rfl ?_
  refine X_getI d12 fg_x0_24 ?_
  refine X_cVi (as := [vi (mI M7 a0 2)]) d15 cv_x0_27 ⟨by decide, by decide⟩ rfl (Nat.le_of_ble_eq_true rfl) (T0_startOf M7 a0 (mI M7 a0 2)) (fun r15 M15 _ => ?_)
  refine X_istoren (lv' := [(2, vi r15), (0, vr a0), (1, vr a1)]) d18 (by decide) rfl ?_
  refine X_aloadn 1 d19 rfl ?_
  refine X_getR d20 fg_x0_16 ?_
  refine X_iloadn 0 d23 rfl ?_
  refine X_iconst k_i_1 d24 ?_
  refine X_iadd d25 ?_
  refine X_cVi (as := [vi (r15 + (1 : Int32))]) d26 cv_x0_46 ⟨by decide, by decide⟩ rfl (Nat.le_of_ble_eq_true rfl) (T3_get M15 (mR M15 a0 0) (r15 + (1 : Int32))) (fun r26 M26 _ => ?_)
  refine X_istoren (lv' := [(3, vi r26), (2, vi r15), (0, vr a0), (1, vr a1)]) d29 (by decide) rfl ?_
  refine X_aloadn 3 d30 rfl ?_
  refine X_cVv (as := []) d31 cv_x0_49 ⟨by decide, by decide⟩ rfl (Nat.le_of_ble_eq_true rfl) (T6_forget M26 a1) (fun M31 _ => ?_)
  refine X_iconst k_i_0 d34 ?_
  refine X_istore (lv' := [(4, vi (0 : Int32)), (3, vi r26), (2, vi r15), (0, vr a0), (1, vr a1)]) d35 (by decide) rfl ?_
  refine X_sub [3, 4, 2, 1, 0] rfl ?_
  exact T0_takeBack_b37 M31 a0 a1 r15 r26 (0 : Int32)

theorem dd7_ofGoal : AllD (ib i7_ofGoal) [(0, .aload_n 0, 1), (1, .getfield 30, 3), (4, .iload_n 1, 1), (5, .bipush 6, 2), (7, .imul, 1), (8, .iload_n 2, 1), (9, .iadd, 1), (10, .invokevirtual 57, 3), (13, .ireturn, 1)] := allD_of (by decide +kernel)
def f7_ofGoal (M : MM) (a0 : Nat) (a1 : Int32) (a2 : Int32) : Option (Int32 × MM) :=
  aO M a0 7 <|
  aO M (mR M a0 3) 3 <|
  cI (f3_get M (mR M a0 3) ((a1 * (6 : Int32)) + a2)) fun r10 M10 =>
  some (r10, M10)
set_option maxRecDepth 4000 in
theorem T7_ofGoal (M : MM) (a0 : Nat) (a1 : Int32) (a2 : Int32) : ∀ q, f7_ofGoal M a0 a1 a2 = some q → Run i7_ofGoal [vr a0, vi a1, vi a2] M (Li q) := by
  obtain ⟨d0, d1, d4, d5, d7, d8, d9, d10, d13, -⟩ := dd7_ofGoal
  refine Run_of_X (by decide) (Nat.le_of_ble_eq_true rfl) ?_
  show X Li i7_ofGoal 0 [(0, vr a0), (1, vi a1), (2, vi a2)] [] M _
  unfold f7_ofGoal
  refine X_aloadn 0 d0 rfl ?_
  refine X_getR d1 fg_x7_30 ?_
  refine X_iloadn 1 d4 rfl ?_
  refine X_bipush k_b_6 d5 ?_
  refine X_imul d7 ?_
  refine X_iloadn 2 d8 rfl ?_
  refine X_iadd d9 ?_
  refine X_cVi (as := [vi ((a1 * (6 : Int32)) + a2)]) d10 cv_x7_57 ⟨by decide, by decide⟩ rfl (Nat.le_of_ble_eq_true rfl) (T3_get M (mR M a0 3) ((a1 * (6 : Int32)) + a2)) (fun r10 M10 _ => ?_)
  exact X_ireturn d13 rfl rfl

theorem dd4_set : AllD (ib i4_set) [(0, .iload_n 1, 1), (1, .ifCond .lt 19, 3), (4, .iload_n 1, 1), (5, .aload_n 0, 1), (6, .getfield 13, 3), (9, .arraylength, 1), (10, .if_icmp .ge 10, 3), (13, .aload_n 0, 1), (14, .getfield 13, 3), (17, .iload_n 1, 1), (18, .lload_n 2, 1), (19, .lastore, 1), (20, .return_, 1)] := allD_of (by decide +kernel)
def f4_set (M : MM) (a0 : Nat) (a1 : Int32) (a2 : Int64) : Option MM :=
  if a1 < 0 then
    some M
  else
    aO M a0 4 <|
    aL M (mR M a0 0) 1 <|
    if (nI (mK M (mR M a0 0)).2) ≤ a1 then
      some M
    else
      aO M a0 4 <|
      aA M (mR M a0 0) 1 a1 <|
      bM (sJ M (mR M a0 0) a1.toNatClampNeg a2) fun M19 =>
      some M19
set_option maxRecDepth 4000 in
theorem T4_set (M : MM) (a0 : Nat) (a1 : Int32) (a2 : Int64) : ∀ q, f4_set M a0 a1 a2 = some q → Run i4_set [vr a0, vi a1, vl a2] M (Lv q) := by
  obtain ⟨d0, d1, d4, d5, d6, d9, d10, d13, d14, d17, d18, d19, d20, -⟩ := dd4_set
  refine Run_of_X (by decide) (Nat.le_of_ble_eq_true rfl) ?_
  show X Lv i4_set 0 [(0, vr a0), (1, vi a1), (2, vl a2)] [] M _
  unfold f4_set
  refine X_iloadn 1 d0 rfl ?_
  refine X_if_lt (t := 20) d1 rfl (fun h1 => ?_) (fun h1 => ?_)
  · exact X_vreturn d20 rfl rfl
  · refine X_iloadn 1 d4 rfl ?_
    refine X_aloadn 0 d5 rfl ?_
    refine X_getR d6 fg_x4_13 ?_
    refine X_alen (by decide) d9 ?_
    refine X_icmp_ge (t := 20) d10 rfl (fun h10 => ?_) (fun h10 => ?_)
    · exact X_vreturn d20 rfl rfl
    · refine X_aloadn 0 d13 rfl ?_
      refine X_getR d14 fg_x4_13 ?_
      refine X_iloadn 1 d17 rfl ?_
      refine X_lloadn 2 d18 rfl ?_
      refine X_lastore d19 ?_
      refine X_bM fun M19 _ => ?_
      exact X_vreturn d20 rfl rfl

theorem dd1_aimAtNothing : AllD (ib i1_aimAtNothing) [(0, .aload_n 0, 1), (1, .getfield 20, 3), (4, .iload_n 1, 1), (5, .lconst 0, 1), (6, .invokevirtual 33, 3), (9, .return_, 1)] := allD_of (by decide +kernel)
def f1_aimAtNothing (M : MM) (a0 : Nat) (a1 : Int32) : Option MM :=
  aO M a0 1 <|
  aO M (mR M a0 1) 4 <|
  cV (f4_set M (mR M a0 1) a1 (0 : Int64)) fun M6 =>
  some M6
set_option maxRecDepth 4000 in
theorem T1_aimAtNothing (M : MM) (a0 : Nat) (a1 : Int32) : ∀ q, f1_aimAtNothing M a0 a1 = some q → Run i1_aimAtNothing [vr a0, vi a1] M (Lv q) := by
  obtain ⟨d0, d1, d4, d5, d6, d9, -⟩ := dd1_aimAtNothing
  refine Run_of_X (by decide) (Nat.le_of_ble_eq_true rfl) ?_
  show X Lv i1_aimAtNothing 0 [(0, vr a0), (1, vi a1)] [] M _
  unfold f1_aimAtNothing
  refine X_aloadn 0 d0 rfl ?_
  refine X_getR d1 fg_x1_20 ?_
  refine X_iloadn 1 d4 rfl ?_
  refine X_lconst k_l_0 d5 ?_
  refine X_cVv (as := [vi a1, vl (0 : Int64)]) d6 cv_x1_33 ⟨by decide, by decide⟩ rfl (Nat.le_of_ble_eq_true rfl) (T4_set M (mR M a0 1) a1 (0 : Int64)) (fun M6 _ => ?_)
  exact X_vreturn d9 rfl rfl

theorem dd4_get : AllD (ib i4_get) [(0, .iload_n 1, 1), (1, .ifCond .lt 21, 3), (4, .iload_n 1, 1), (5, .aload_n 0, 1), (6, .getfield 13, 3), (9, .arraylength, 1), (10, .if_icmp .ge 12, 3), (13, .aload_n 0, 1), (14, .getfield 13, 3), (17, .iload_n 1, 1), (18, .laload, 1), (19, .goto 6, 3), (22, .ldc2_w 3, 3), (25, .lreturn, 1)] := allD_of (by decide +kernel)
def f4_get (M : MM) (a0 : Nat) (a1 : Int32) : Option (Int64 × MM) :=
  if a1 < 0 then
    some ((1000000000000001 : Int64), M)
  else
    aO M a0 4 <|
    aL M (mR M a0 0) 1 <|
    if (nI (mK M (mR M a0 0)).2) ≤ a1 then
      some ((1000000000000001 : Int64), M)
    else
      aO M a0 4 <|
      aA M (mR M a0 0) 1 a1 <|
      some (mJ M (mR M a0 0) a1.toNatClampNeg, M)
set_option maxRecDepth 4000 in
theorem T4_get (M : MM) (a0 : Nat) (a1 : Int32) : ∀ q, f4_get M a0 a1 = some q → Run i4_get [vr a0, vi a1] M (Ll q) := by
  obtain ⟨d0, d1, d4, d5, d6, d9, d10, d13, d14, d17, d18, d19, d22, d25, -⟩ := dd4_get
  refine Run_of_X (by decide) (Nat.le_of_ble_eq_true rfl) ?_
  show X Ll i4_get 0 [(0, vr a0), (1, vi a1)] [] M _
  unfold f4_get
  refine X_iloadn 1 d0 rfl ?_
  refine X_if_lt (t := 22) d1 rfl (fun h1 => ?_) (fun h1 => ?_)
  · refine X_ldc2 kc_x4_3 d22 ?_
    exact X_lreturn d25 rfl rfl
  · refine X_iloadn 1 d4 rfl ?_
    refine X_aloadn 0 d5 rfl ?_
    refine X_getR d6 fg_x4_13 ?_
    refine X_alen (by decide) d9 ?_
    refine X_icmp_ge (t := 22) d10 rfl (fun h10 => ?_) (fun h10 => ?_)
    · refine X_ldc2 kc_x4_3 d22 ?_
      exact X_lreturn d25 rfl rfl
    · refine X_aloadn 0 d13 rfl ?_
      refine X_getR d14 fg_x4_13 ?_
      refine X_iloadn 1 d17 rfl ?_
      refine X_laload d18 ?_
      refine X_goto (t := 25) d19 rfl ?_
      exact X_lreturn d25 rfl rfl

theorem dd1_lower : AllD (ib i1_lower) [(0, .iload_n 1, 1), (1, .bipush 6, 2), (3, .imul, 1), (4, .iload_n 2, 1), (5, .iadd, 1), (6, .bipush 15, 2), (8, .imul, 1), (9, .iload_n 3, 1), (10, .iadd, 1), (11, .istore 6, 2), (13, .lload 4, 2), (15, .aload_n 0, 1), (16, .getfield 16, 3), (19, .iload 6, 2), (21, .invokevirtual 64, 3), (24, .lcmp, 1), (25, .ifCond .lt 5, 3), (28, .iconst 0, 1), (29, .ireturn, 1), (30, .aload_n 0, 1), (31, .getfield 16, 3), (34, .iload 6, 2), (36, .lload 4, 2), (38, .invokevirtual 33, 3), (41, .iconst 1, 1), (42, .ireturn, 1)] := allD_of (by decide +kernel)
def f1_lower (M : MM) (a0 : Nat) (a1 : Int32) (a2 : Int32) (a3 : Int32) (a4 : Int64) : Option (Int32 × MM) :=
  bW ((((a1 * (6 : Int32)) + a2) * (15 : Int32)) + a3) fun v11 =>
  aO M a0 1 <|
  aO M (mR M a0 0) 4 <|
  cJ (f4_get M (mR M a0 0) v11) fun r21 M21 =>
  if a4 < r21 then
    aO M21 a0 1 <|
    aO M21 (mR M21 a0 0) 4 <|
    cV (f4_set M21 (mR M21 a0 0) v11 a4) fun M38 =>
    some ((1 : Int32), M38)
  else
    some ((0 : Int32), M21)
set_option maxRecDepth 4000 in
theorem T1_lower (M : MM) (a0 : Nat) (a1 : Int32) (a2 : Int32) (a3 : Int32) (a4 : Int64) : ∀ q, f1_lower M a0 a1 a2 a3 a4 = some q → Run i1_lower [vr a0, vi a1, vi a2, vi a3, vl a4] M (Li q) := by
  obtain ⟨d0, d1, d3, d4, d5, d6, d8, d9, d10, d11, d13, d15, d16, d19, d21, d24, d25, d28, d29, d30, d31, d34, d36, d38, d41, d42, -⟩ := dd1_lower
  refine Run_of_X (by decide) (Nat.le_of_ble_eq_true rfl) ?_
  show X Li i1_lower 0 [(0, vr a0), (1, vi a1), (2, vi a2), (3, vi a3), (4, vl a4)] [] M _
  unfold f1_lower
  refine X_iloadn 1 d0 rfl ?_
  refine X_bipush k_b_6 d1 ?_
  refine X_imul d3 ?_
  refine X_iloadn 2 d4 rfl ?_
  refine X_iadd d5 ?_
  refine X_bipush k_b_15 d6 ?_
  refine X_imul d8 ?_
  refine X_iloadn 3 d9 rfl ?_
  refine X_iadd d10 ?_
  refine X_bWi fun v11 _ => ?_
  refine X_istore (lv' := [(6, vi v11), (0, vr a0), (1, vi a1), (2, vi a2), (3, vi a3), (4, vl a4)]) d11 (by decide) rfl ?_
  refine X_lload 5 d13 rfl ?_
  refine X_aloadn 1 d15 rfl ?_
  refine X_getR d16 fg_x1_16 ?_
  refine X_iload 0 d19 rfl ?_
  refine X_cVl (as := [vi v11]) d21 cv_x1_64 ⟨by decide, by decide⟩ rfl (Nat.le_of_ble_eq_true rfl) (T4_get M (mR M a0 0) v11) (fun r21 M21 _ => ?_)
  refine X_lif_lt (t := 30) d24 d25 rfl (fun h24 => ?_) (fun h24 => ?_)
  · refine X_aloadn 1 d30 rfl ?_
    refine X_getR d31 fg_x1_16 ?_
    refine X_iload 0 d34 rfl ?_
    refine X_lload 5 d36 rfl ?_
    refine X_cVv (as := [vi v11, vl a4]) d38 cv_x1_33 ⟨by decide, by decide⟩ rfl (Nat.le_of_ble_eq_true rfl) (T4_set M21 (mR M21 a0 0) v11 a4) (fun M38 _ => ?_)
    refine X_iconst k_i_1 d41 ?_
    exact X_zreturnc d42 rfl (by decide) rfl
  · refine X_iconst k_i_0 d28 ?_
    exact X_zreturnc d29 rfl (by decide) rfl

theorem dd1_aimAtHead : AllD (ib i1_aimAtHead) [(0, .aload_n 0, 1), (1, .iload_n 1, 1), (2, .iload_n 2, 1), (3, .iconst 5, 1), (4, .lconst 0, 1), (5, .invokevirtual 29, 3), (8, .pop, 1), (9, .return_, 1)] := allD_of (by decide +kernel)
def f1_aimAtHead (M : MM) (a0 : Nat) (a1 : Int32) (a2 : Int32) : Option MM :=
  aO M a0 1 <|
  cI (f1_lower M a0 a1 a2 (5 : Int32) (0 : Int64)) fun r5 M5 =>
  some M5
set_option maxRecDepth 4000 in
theorem T1_aimAtHead (M : MM) (a0 : Nat) (a1 : Int32) (a2 : Int32) : ∀ q, f1_aimAtHead M a0 a1 a2 = some q → Run i1_aimAtHead [vr a0, vi a1, vi a2] M (Lv q) := by
  obtain ⟨d0, d1, d2, d3, d4, d5, d8, d9, -⟩ := dd1_aimAtHead
  refine Run_of_X (by decide) (Nat.le_of_ble_eq_true rfl) ?_
  show X Lv i1_aimAtHead 0 [(0, vr a0), (1, vi a1), (2, vi a2)] [] M _
  unfold f1_aimAtHead
  refine X_aloadn 0 d0 rfl ?_
  refine X_iloadn 1 d1 rfl ?_
  refine X_iloadn 2 d2 rfl ?_
  refine X_iconst k_i_5 d3 ?_
  refine X_lconst k_l_0 d4 ?_
  refine X_cVi (as := [vi a1, vi a2, vi (5 : Int32), vl (0 : Int64)]) d5 cv_x1_29 ⟨by decide, by decide⟩ rfl (Nat.le_of_ble_eq_true rfl) (T1_lower M a0 a1 a2 (5 : Int32) (0 : Int64)) (fun r5 M5 _ => ?_)
  refine X_popi d8 ?_
  exact X_vreturn d9 rfl rfl

theorem dd1_aimAtGoal_b118 : AllD (ib i1_aimAtGoal) [(118, .aload_n 0, 1), (119, .iload 5, 2), (121, .aload_n 1, 1), (122, .iload_n 2, 1), (123, .iconst 3, 1), (124, .iload 6, 2), (126, .iadd, 1), (127, .invokevirtual 56, 3), (130, .iload 7, 2), (132, .lconst 0, 1), (133, .invokevirtual 29, 3), (136, .pop, 1), (137, .iload 7, 2), (139, .istore 5, 2), (141, .iinc 6 1, 3), (144, .goto (-64), 3)] := allD_of (by decide +kernel)
def f1_aimAtGoal_b118 (K80 : MM → Nat → Nat → Int32 → Int32 → Int32 → Int32 → Int32 → Option MM) (M : MM) (a0 : Nat) (a1 : Nat) (a2 : Int32) (a3 : Int32) (a4 : Int32) (a5 : Int32) (a6 : Int32) (a7 : Int32) : Option MM :=
  aO M a1 7 <|
  cI (f7_ofGoal M a1 a2 ((3 : Int32) + a6)) fun r127 M127 =>
  aO M127 a0 1 <|
  cI (f1_lower M127 a0 a5 r127 a7 (0 : Int64)) fun r133 M133 =>
  K80 M133 a0 a1 a2 a3 a4 a7 (a6 + (1 : Int32))
set_option maxRecDepth 4000 in
theorem T1_aimAtGoal_b118 {K80 : MM → Nat → Nat → Int32 → Int32 → Int32 → Int32 → Int32 → Option MM} (hK80 : ∀ (M : MM) (a0 : Nat) (a1 : Nat) (a2 : Int32) (a3 : Int32) (a4 : Int32) (a5 : Int32) (a6 : Int32), X Lv i1_aimAtGoal 80 [(0, vr a0), (1, vr a1), (2, vi a2), (3, vi a3), (4, vi a4), (5, vi a5), (6, vi a6)] [] M (K80 M a0 a1 a2 a3 a4 a5 a6)) : ∀ (M : MM) (a0 : Nat) (a1 : Nat) (a2 : Int32) (a3 : Int32) (a4 : Int32) (a5 : Int32) (a6 : Int32) (a7 : Int32), X Lv i1_aimAtGoal 118 [(0, vr a0), (1, vr a1), (2, vi a2), (3, vi a3), (4, vi a4), (5, vi a5), (6, vi a6), (7, vi a7)] [] M (f1_aimAtGoal_b118 K80 M a0 a1 a2 a3 a4 a5 a6 a7) := by
  obtain ⟨d118, d119, d121, d122, d123, d124, d126, d127, d130, d132, d133, d136, d137, d139, d141, d144, -⟩ := dd1_aimAtGoal_b118
  intro M a0 a1 a2 a3 a4 a5 a6 a7
  unfold f1_aimAtGoal_b118
  refine X_aloadn 0 d118 rfl ?_
  refine X_iload 5 d119 rfl ?_
  refine X_aloadn 1 d121 rfl ?_
  refine X_iloadn 2 d122 rfl ?_
  refine X_iconst k_i_3 d123 ?_
  refine X_iload 6 d124 rfl ?_
  refine X_iadd d126 ?_
  refine X_cVi (as := [vi a2, vi ((3 : Int32) + a6)]) d127 cv_x1_56 ⟨by decide, by decide⟩ rfl (Nat.le_of_ble_eq_true rfl) (T7_ofGoal M a1 a2 ((3 : Int32) + a6)) (fun r127 M127 _ => ?_)
  refine X_iload 7 d130 rfl ?_
  refine X_lconst k_l_0 d132 ?_
  refine X_cVi (as := [vi a5, vi r127, vi a7, vl (0 : Int64)]) d133 cv_x1_29 ⟨by decide, by decide⟩ rfl (Nat.le_of_ble_eq_true rfl) (T1_lower M127 a0 a5 r127 a7 (0 : Int64)) (fun r133 M133 _ => ?_)
  refine X_popi d136 ?_
  refine X_iload 7 d137 rfl ?_
  refine X_istore (lv' := [(5, vi a7), (0, vr a0), (1, vr a1), (2, vi a2), (3, vi a3), (4, vi a4), (6, vi a6), (7, vi a7)]) d139 (by decide) rfl ?_
  refine X_inc (lv' := [(6, vi (a6 + (1 : Int32))), (5, vi a7), (0, vr a0), (1, vr a1), (2, vi a2), (3, vi a3), (4, vi a4), (7, vi a7)]) 6 d141 k_i_1 rfl (by decide) rfl ?_
  refine X_goto (t := 80) d144 rfl ?_
  refine X_sub [2, 3, 4, 5, 6, 1, 0] rfl ?_
  exact hK80 M133 a0 a1 a2 a3 a4 a7 (a6 + (1 : Int32))

theorem dd1_aimAtGoal_b97 : AllD (ib i1_aimAtGoal) [(97, .istore 7, 2), (99, .iload 6, 2), (101, .iload_n 3, 1), (102, .iconst 1, 1), (103, .isub, 1), (104, .if_icmp .ge 14, 3), (107, .bipush 7, 2), (109, .iload_n 2, 1), (110, .iconst 2, 1), (111, .imul, 1), (112, .iadd, 1), (113, .iload 6, 2), (115, .iadd, 1), (116, .istore 7, 2)] := allD_of (by decide +kernel)
def f1_aimAtGoal_b97 (K80 : MM → Nat → Nat → Int32 → Int32 → Int32 → Int32 → Int32 → Option MM) (M : MM) (a0 : Nat) (a1 : Nat) (a2 : Int32) (a3 : Int32) (a4 : Int32) (a5 : Int32) (a6 : Int32) (s0 : Int32) : Option MM :=
  if (a3 - (1 : Int32)) ≤ a6 then
    (f1_aimAtGoal_b118 K80) M a0 a1 a2 a3 a4 a5 a6 s0
  else
    bW (((7 : Int32) + (a2 * (2 : Int32))) + a6) fun v116 =>
    (f1_aimAtGoal_b118 K80) M a0 a1 a2 a3 a4 a5 a6 v116
set_option maxRecDepth 4000 in
theorem T1_aimAtGoal_b97 {K80 : MM → Nat → Nat → Int32 → Int32 → Int32 → Int32 → Int32 → Option MM} (hK80 : ∀ (M : MM) (a0 : Nat) (a1 : Nat) (a2 : Int32) (a3 : Int32) (a4 : Int32) (a5 : Int32) (a6 : Int32), X Lv i1_aimAtGoal 80 [(0, vr a0), (1, vr a1), (2, vi a2), (3, vi a3), (4, vi a4), (5, vi a5), (6, vi a6)] [] M (K80 M a0 a1 a2 a3 a4 a5 a6)) : ∀ (M : MM) (a0 : Nat) (a1 : Nat) (a2 : Int32) (a3 : Int32) (a4 : Int32) (a5 : Int32) (a6 : Int32) (s0 : Int32), X Lv i1_aimAtGoal 97 [(0, vr a0), (1, vr a1), (2, vi a2), (3, vi a3), (4, vi a4), (5, vi a5), (6, vi a6)] [vi s0] M (f1_aimAtGoal_b97 K80 M a0 a1 a2 a3 a4 a5 a6 s0) := by
  obtain ⟨d97, d99, d101, d102, d103, d104, d107, d109, d110, d111, d112, d113, d115, d116, -⟩ := dd1_aimAtGoal_b97
  intro M a0 a1 a2 a3 a4 a5 a6 s0
  unfold f1_aimAtGoal_b97
  refine X_istore (lv' := [(7, vi s0), (0, vr a0), (1, vr a1), (2, vi a2), (3, vi a3), (4, vi a4), (5, vi a5), (6, vi a6)]) d97 (by decide) rfl ?_
  refine X_iload 7 d99 rfl ?_
  refine X_iloadn 4 d101 rfl ?_
  refine X_iconst k_i_1 d102 ?_
  refine X_isub d103 ?_
  refine X_icmp_ge (t := 118) d104 rfl (fun h104 => ?_) (fun h104 => ?_)
  · refine X_sub [1, 2, 3, 4, 5, 6, 7, 0] rfl ?_
    exact (T1_aimAtGoal_b118 hK80) M a0 a1 a2 a3 a4 a5 a6 s0
  · refine X_bipush k_b_7 d107 ?_
    refine X_iloadn 3 d109 rfl ?_
    refine X_iconst k_i_2 d110 ?_
    refine X_imul d111 ?_
    refine X_iadd d112 ?_
    refine X_iload 7 d113 rfl ?_
    refine X_iadd d115 ?_
    refine X_bWi fun v116 _ => ?_
    refine X_istore (lv' := [(7, vi v116), (0, vr a0), (1, vr a1), (2, vi a2), (3, vi a3), (4, vi a4), (5, vi a5), (6, vi a6)]) d116 (by decide) rfl ?_
    refine X_sub [1, 2, 3, 4, 5, 6, 7, 0] rfl ?_
    exact (T1_aimAtGoal_b118 hK80) M a0 a1 a2 a3 a4 a5 a6 v116

theorem dd1_aimAtGoal_b80 : AllD (ib i1_aimAtGoal) [(80, .iload 6, 2), (82, .iload_n 3, 1), (83, .if_icmp .ge 64, 3), (86, .iload 4, 2), (88, .ifCond .eq 7, 3), (91, .iconst 5, 1), (92, .goto 5, 3), (95, .bipush 6, 2), (147, .return_, 1)] := allD_of (by decide +kernel)
def f1_aimAtGoal_b80_body (rc : MM → Nat → Nat → Int32 → Int32 → Int32 → Int32 → Int32 → Option MM) (M : MM) (a0 : Nat) (a1 : Nat) (a2 : Int32) (a3 : Int32) (a4 : Int32) (a5 : Int32) (a6 : Int32) : Option MM :=
  if a3 ≤ a6 then
    some M
  else
    if a4 = 0 then
      (f1_aimAtGoal_b97 rc) M a0 a1 a2 a3 a4 a5 a6 (6 : Int32)
    else
      (f1_aimAtGoal_b97 rc) M a0 a1 a2 a3 a4 a5 a6 (5 : Int32)
def f1_aimAtGoal_b80 : MM → Nat → Nat → Int32 → Int32 → Int32 → Int32 → Int32 → Option MM := LP8 (f1_aimAtGoal_b80_body) FU
set_option maxRecDepth 4000 in
theorem T1_aimAtGoal_b80 : ∀ (M : MM) (a0 : Nat) (a1 : Nat) (a2 : Int32) (a3 : Int32) (a4 : Int32) (a5 : Int32) (a6 : Int32), X Lv i1_aimAtGoal 80 [(0, vr a0), (1, vr a1), (2, vi a2), (3, vi a3), (4, vi a4), (5, vi a5), (6, vi a6)] [] M (f1_aimAtGoal_b80 M a0 a1 a2 a3 a4 a5 a6) := by
  obtain ⟨d80, d82, d83, d86, d88, d91, d92, d95, d147, -⟩ := dd1_aimAtGoal_b80
  refine LP8_i (P := fun M a0 a1 a2 a3 a4 a5 a6 o => X Lv i1_aimAtGoal 80 [(0, vr a0), (1, vr a1), (2, vi a2), (3, vi a3), (4, vi a4), (5, vi a5), (6, vi a6)] [] M o) (fun _ _ _ _ _ _ _ _ => X_none) (fun rc ih M a0 a1 a2 a3 a4 a5 a6 => ?_) FU
  unfold f1_aimAtGoal_b80_body
  refine X_iload 6 d80 rfl ?_
  refine X_iloadn 3 d82 rfl ?_
  refine X_icmp_ge (t := 147) d83 rfl (fun h83 => ?_) (fun h83 => ?_)
  · exact X_vreturn d147 rfl rfl
  · refine X_iload 4 d86 rfl ?_
    refine X_if_eq (t := 95) d88 rfl (fun h88 => ?_) (fun h88 => ?_)
    · refine X_bipush k_b_6 d95 ?_
      exact (T1_aimAtGoal_b97 ih) M a0 a1 a2 a3 a4 a5 a6 (6 : Int32)
    · refine X_iconst k_i_5 d91 ?_
      refine X_goto (t := 97) d92 rfl ?_
      exact (T1_aimAtGoal_b97 ih) M a0 a1 a2 a3 a4 a5 a6 (5 : Int32)

theorem dd1_aimAtGoal_b77 : AllD (ib i1_aimAtGoal) [(77, .iconst 0, 1), (78, .istore 6, 2)] := allD_of (by decide +kernel)
def f1_aimAtGoal_b77 (M : MM) (a0 : Nat) (a1 : Nat) (a2 : Int32) (a3 : Int32) (a4 : Int32) (a5 : Int32) : Option MM :=
  f1_aimAtGoal_b80 M a0 a1 a2 a3 a4 a5 (0 : Int32)
set_option maxRecDepth 4000 in
theorem T1_aimAtGoal_b77 : ∀ (M : MM) (a0 : Nat) (a1 : Nat) (a2 : Int32) (a3 : Int32) (a4 : Int32) (a5 : Int32), X Lv i1_aimAtGoal 77 [(0, vr a0), (1, vr a1), (2, vi a2), (3, vi a3), (4, vi a4), (5, vi a5)] [] M (f1_aimAtGoal_b77 M a0 a1 a2 a3 a4 a5) := by
  obtain ⟨d77, d78, -⟩ := dd1_aimAtGoal_b77
  intro M a0 a1 a2 a3 a4 a5
  unfold f1_aimAtGoal_b77
  refine X_iconst k_i_0 d77 ?_
  refine X_istore (lv' := [(6, vi (0 : Int32)), (0, vr a0), (1, vr a1), (2, vi a2), (3, vi a3), (4, vi a4), (5, vi a5)]) d78 (by decide) rfl ?_
  refine X_sub [1, 2, 3, 4, 5, 6, 0] rfl ?_
  exact T1_aimAtGoal_b80 M a0 a1 a2 a3 a4 a5 (0 : Int32)

theorem dd1_aimAtGoal_b45 : AllD (ib i1_aimAtGoal) [(45, .iload_n 3, 1), (46, .ifCond .ne 31, 3), (49, .iload 4, 2), (51, .ifCond .eq 26, 3), (54, .iload 6, 2), (56, .aload_n 1, 1), (57, .getfield 40, 3), (60, .if_icmp .ge 17, 3), (63, .aload_n 0, 1), (64, .iload 5, 2), (66, .iload 6, 2), (68, .invokevirtual 60, 3), (71, .iinc 6 1, 3), (74, .goto (-29), 3)] := allD_of (by decide +kernel)
def f1_aimAtGoal_b45_body (rc : MM → Nat → Nat → Int32 → Int32 → Int32 → Int32 → Int32 → Option MM) (M : MM) (a0 : Nat) (a1 : Nat) (a2 : Int32) (a3 : Int32) (a4 : Int32) (a5 : Int32) (a6 : Int32) : Option MM :=
  if a3 = 0 then
    if a4 = 0 then
      f1_aimAtGoal_b77 M a0 a1 a2 a3 a4 a5
    else
      aO M a1 7 <|
      if (mI M a1 5) ≤ a6 then
        f1_aimAtGoal_b77 M a0 a1 a2 a3 a4 a5
      else
        aO M a0 1 <|
        cV (f1_aimAtHead M a0 a5 a6) fun M68 =>
        rc M68 a0 a1 a2 a3 a4 a5 (a6 + (1 : Int32))
  else
    f1_aimAtGoal_b77 M a0 a1 a2 a3 a4 a5
def f1_aimAtGoal_b45 : MM → Nat → Nat → Int32 → Int32 → Int32 → Int32 → Int32 → Option MM := LP8 (f1_aimAtGoal_b45_body) FU
set_option maxRecDepth 4000 in
theorem T1_aimAtGoal_b45 : ∀ (M : MM) (a0 : Nat) (a1 : Nat) (a2 : Int32) (a3 : Int32) (a4 : Int32) (a5 : Int32) (a6 : Int32), X Lv i1_aimAtGoal 45 [(0, vr a0), (1, vr a1), (2, vi a2), (3, vi a3), (4, vi a4), (5, vi a5), (6, vi a6)] [] M (f1_aimAtGoal_b45 M a0 a1 a2 a3 a4 a5 a6) := by
  obtain ⟨d45, d46, d49, d51, d54, d56, d57, d60, d63, d64, d66, d68, d71, d74, -⟩ := dd1_aimAtGoal_b45
  refine LP8_i (P := fun M a0 a1 a2 a3 a4 a5 a6 o => X Lv i1_aimAtGoal 45 [(0, vr a0), (1, vr a1), (2, vi a2), (3, vi a3), (4, vi a4), (5, vi a5), (6, vi a6)] [] M o) (fun _ _ _ _ _ _ _ _ => X_none) (fun rc ih M a0 a1 a2 a3 a4 a5 a6 => ?_) FU
  unfold f1_aimAtGoal_b45_body
  refine X_iloadn 3 d45 rfl ?_
  refine X_if_ne (t := 77) d46 rfl (fun h46 => ?_) (fun h46 => ?_)
  · refine X_iload 4 d49 rfl ?_
    refine X_if_eq (t := 77) d51 rfl (fun h51 => ?_) (fun h51 => ?_)
    · refine X_sub [0, 1, 2, 3, 4, 5] rfl ?_
      exact T1_aimAtGoal_b77 M a0 a1 a2 a3 a4 a5
    · refine X_iload 6 d54 rfl ?_
      refine X_aloadn 1 d56 rfl ?_
      refine X_getI d57 fg_x1_40 ?_
      refine X_icmp_ge (t := 77) d60 rfl (fun h60 => ?_) (fun h60 => ?_)
      · refine X_sub [0, 1, 2, 3, 4, 5] rfl ?_
        exact T1_aimAtGoal_b77 M a0 a1 a2 a3 a4 a5
      · refine X_aloadn 0 d63 rfl ?_
        refine X_iload 5 d64 rfl ?_
        refine X_iload 6 d66 rfl ?_
        refine X_cVv (as := [vi a5, vi a6]) d68 cv_x1_60 ⟨by decide, by decide⟩ rfl (Nat.le_of_ble_eq_true rfl) (T1_aimAtHead M a0 a5 a6) (fun M68 _ => ?_)
        refine X_inc (lv' := [(6, vi (a6 + (1 : Int32))), (0, vr a0), (1, vr a1), (2, vi a2), (3, vi a3), (4, vi a4), (5, vi a5)]) 6 d71 k_i_1 rfl (by decide) rfl ?_
        refine X_goto (t := 45) d74 rfl ?_
        refine X_sub [1, 2, 3, 4, 5, 6, 0] rfl ?_
        exact ih M68 a0 a1 a2 a3 a4 a5 (a6 + (1 : Int32))
  · refine X_sub [0, 1, 2, 3, 4, 5] rfl ?_
    exact T1_aimAtGoal_b77 M a0 a1 a2 a3 a4 a5

theorem dd1_aimAtGoal_b42 : AllD (ib i1_aimAtGoal) [(42, .iconst 0, 1), (43, .istore 6, 2)] := allD_of (by decide +kernel)
def f1_aimAtGoal_b42 (M : MM) (a0 : Nat) (a1 : Nat) (a2 : Int32) (a3 : Int32) (a4 : Int32) (a5 : Int32) : Option MM :=
  f1_aimAtGoal_b45 M a0 a1 a2 a3 a4 a5 (0 : Int32)
set_option maxRecDepth 4000 in
theorem T1_aimAtGoal_b42 : ∀ (M : MM) (a0 : Nat) (a1 : Nat) (a2 : Int32) (a3 : Int32) (a4 : Int32) (a5 : Int32), X Lv i1_aimAtGoal 42 [(0, vr a0), (1, vr a1), (2, vi a2), (3, vi a3), (4, vi a4), (5, vi a5)] [] M (f1_aimAtGoal_b42 M a0 a1 a2 a3 a4 a5) := by
  obtain ⟨d42, d43, -⟩ := dd1_aimAtGoal_b42
  intro M a0 a1 a2 a3 a4 a5
  unfold f1_aimAtGoal_b42
  refine X_iconst k_i_0 d42 ?_
  refine X_istore (lv' := [(6, vi (0 : Int32)), (0, vr a0), (1, vr a1), (2, vi a2), (3, vi a3), (4, vi a4), (5, vi a5)]) d43 (by decide) rfl ?_
  refine X_sub [1, 2, 3, 4, 5, 6, 0] rfl ?_
  exact T1_aimAtGoal_b45 M a0 a1 a2 a3 a4 a5 (0 : Int32)

theorem dd1_aimAtGoal_b22 : AllD (ib i1_aimAtGoal) [(22, .istore 4, 2), (24, .aload_n 1, 1), (25, .iload_n 2, 1), (26, .iconst 0, 1), (27, .invokevirtual 56, 3), (30, .istore 5, 2), (32, .iload_n 3, 1), (33, .ifCond .ne 9, 3), (36, .aload_n 0, 1), (37, .iload 5, 2), (39, .invokevirtual 37, 3)] := allD_of (by decide +kernel)
def f1_aimAtGoal_b22 (M : MM) (a0 : Nat) (a1 : Nat) (a2 : Int32) (a3 : Int32) (s0 : Int32) : Option MM :=
  aO M a1 7 <|
  cI (f7_ofGoal M a1 a2 (0 : Int32)) fun r27 M27 =>
  if a3 = 0 then
    aO M27 a0 1 <|
    cV (f1_aimAtNothing M27 a0 r27) fun M39 =>
    f1_aimAtGoal_b42 M39 a0 a1 a2 a3 s0 r27
  else
    f1_aimAtGoal_b42 M27 a0 a1 a2 a3 s0 r27
set_option maxRecDepth 4000 in
theorem T1_aimAtGoal_b22 : ∀ (M : MM) (a0 : Nat) (a1 : Nat) (a2 : Int32) (a3 : Int32) (s0 : Int32), X Lv i1_aimAtGoal 22 [(0, vr a0), (1, vr a1), (2, vi a2), (3, vi a3)] [vi s0] M (f1_aimAtGoal_b22 M a0 a1 a2 a3 s0) := by
  obtain ⟨d22, d24, d25, d26, d27, d30, d32, d33, d36, d37, d39, -⟩ := dd1_aimAtGoal_b22
  intro M a0 a1 a2 a3 s0
  unfold f1_aimAtGoal_b22
  refine X_istore (lv' := [(4, vi s0), (0, vr a0), (1, vr a1), (2, vi a2), (3, vi a3)]) d22 (by decide) rfl ?_
  refine X_aloadn 2 d24 rfl ?_
  refine X_iloadn 3 d25 rfl ?_
  refine X_iconst k_i_0 d26 ?_
  refine X_cVi (as := [vi a2, vi (0 : Int32)]) d27 cv_x1_56 ⟨by decide, by decide⟩ rfl (Nat.le_of_ble_eq_true rfl) (T7_ofGoal M a1 a2 (0 : Int32)) (fun r27 M27 _ => ?_)
  refine X_istore (lv' := [(5, vi r27), (4, vi s0), (0, vr a0), (1, vr a1), (2, vi a2), (3, vi a3)]) d30 (by decide) rfl ?_
  refine X_iloadn 5 d32 rfl ?_
  refine X_if_ne (t := 42) d33 rfl (fun h33 => ?_) (fun h33 => ?_)
  · refine X_aloadn 2 d36 rfl ?_
    refine X_iload 0 d37 rfl ?_
    refine X_cVv (as := [vi r27]) d39 cv_x1_37 ⟨by decide, by decide⟩ rfl (Nat.le_of_ble_eq_true rfl) (T1_aimAtNothing M27 a0 r27) (fun M39 _ => ?_)
    refine X_sub [2, 3, 4, 5, 1, 0] rfl ?_
    exact T1_aimAtGoal_b42 M39 a0 a1 a2 a3 s0 r27
  · refine X_sub [2, 3, 4, 5, 1, 0] rfl ?_
    exact T1_aimAtGoal_b42 M27 a0 a1 a2 a3 s0 r27

theorem dd1_aimAtGoal : AllD (ib i1_aimAtGoal) [(0, .aload_n 1, 1), (1, .iload_n 2, 1), (2, .iconst 1, 1), (3, .invokevirtual 56, 3), (6, .istore_n 3, 1), (7, .aload_n 1, 1), (8, .iload_n 2, 1), (9, .iconst 2, 1), (10, .invokevirtual 56, 3), (13, .iconst 1, 1), (14, .if_icmp .ne 7, 3), (17, .iconst 1, 1), (18, .goto 4, 3), (21, .iconst 0, 1)] := allD_of (by decide +kernel)
def f1_aimAtGoal (M : MM) (a0 : Nat) (a1 : Nat) (a2 : Int32) : Option MM :=
  aO M a1 7 <|
  cI (f7_ofGoal M a1 a2 (1 : Int32)) fun r3 M3 =>
  aO M3 a1 7 <|
  cI (f7_ofGoal M3 a1 a2 (2 : Int32)) fun r10 M10 =>
  if r10 = (1 : Int32) then
    f1_aimAtGoal_b22 M10 a0 a1 a2 r3 (1 : Int32)
  else
    f1_aimAtGoal_b22 M10 a0 a1 a2 r3 (0 : Int32)
set_option maxRecDepth 4000 in
theorem T1_aimAtGoal (M : MM) (a0 : Nat) (a1 : Nat) (a2 : Int32) : ∀ q, f1_aimAtGoal M a0 a1 a2 = some q → Run i1_aimAtGoal [vr a0, vr a1, vi a2] M (Lv q) := by
  obtain ⟨d0, d1, d2, d3, d6, d7, d8, d9, d10, d13, d14, d17, d18, d21, -⟩ := dd1_aimAtGoal
  refine Run_of_X (by decide) (Nat.le_of_ble_eq_true rfl) ?_
  show X Lv i1_aimAtGoal 0 [(0, vr a0), (1, vr a1), (2, vi a2)] [] M _
  unfold f1_aimAtGoal
  refine X_aloadn 1 d0 rfl ?_
  refine X_iloadn 2 d1 rfl ?_
  refine X_iconst k_i_1 d2 ?_
  refine X_cVi (as := [vi a2, vi (1 : Int32)]) d3 cv_x1_56 ⟨by decide, by decide⟩ rfl (Nat.le_of_ble_eq_true rfl) (T7_ofGoal M a1 a2 (1 : Int32)) (fun r3 M3 _ => ?_)
  refine X_istoren (lv' := [(3, vi r3), (0, vr a0), (1, vr a1), (2, vi a2)]) d6 (by decide) rfl ?_
  refine X_aloadn 2 d7 rfl ?_
  refine X_iloadn 3 d8 rfl ?_
  refine X_iconst k_i_2 d9 ?_
  refine X_cVi (as := [vi a2, vi (2 : Int32)]) d10 cv_x1_56 ⟨by decide, by decide⟩ rfl (Nat.le_of_ble_eq_true rfl) (T7_ofGoal M3 a1 a2 (2 : Int32)) (fun r10 M10 _ => ?_)
  refine X_iconst k_i_1 d13 ?_
  refine X_icmp_ne (t := 21) d14 rfl (fun h14 => ?_) (fun h14 => ?_)
  · refine X_iconst k_i_1 d17 ?_
    refine X_goto (t := 22) d18 rfl ?_
    refine X_sub [1, 2, 3, 0] rfl ?_
    exact T1_aimAtGoal_b22 M10 a0 a1 a2 r3 (1 : Int32)
  · refine X_iconst k_i_0 d21 ?_
    refine X_sub [1, 2, 3, 0] rfl ?_
    exact T1_aimAtGoal_b22 M10 a0 a1 a2 r3 (0 : Int32)

theorem dd7_ofRule : AllD (ib i7_ofRule) [(0, .aload_n 0, 1), (1, .getfield 26, 3), (4, .iload_n 1, 1), (5, .bipush 7, 2), (7, .imul, 1), (8, .iload_n 2, 1), (9, .iadd, 1), (10, .invokevirtual 57, 3), (13, .ireturn, 1)] := allD_of (by decide +kernel)
def f7_ofRule (M : MM) (a0 : Nat) (a1 : Int32) (a2 : Int32) : Option (Int32 × MM) :=
  aO M a0 7 <|
  aO M (mR M a0 2) 3 <|
  cI (f3_get M (mR M a0 2) ((a1 * (7 : Int32)) + a2)) fun r10 M10 =>
  some (r10, M10)
set_option maxRecDepth 4000 in
theorem T7_ofRule (M : MM) (a0 : Nat) (a1 : Int32) (a2 : Int32) : ∀ q, f7_ofRule M a0 a1 a2 = some q → Run i7_ofRule [vr a0, vi a1, vi a2] M (Li q) := by
  obtain ⟨d0, d1, d4, d5, d7, d8, d9, d10, d13, -⟩ := dd7_ofRule
  refine Run_of_X (by decide) (Nat.le_of_ble_eq_true rfl) ?_
  show X Li i7_ofRule 0 [(0, vr a0), (1, vi a1), (2, vi a2)] [] M _
  unfold f7_ofRule
  refine X_aloadn 0 d0 rfl ?_
  refine X_getR d1 fg_x7_26 ?_
  refine X_iloadn 1 d4 rfl ?_
  refine X_bipush k_b_7 d5 ?_
  refine X_imul d7 ?_
  refine X_iloadn 2 d8 rfl ?_
  refine X_iadd d9 ?_
  refine X_cVi (as := [vi ((a1 * (7 : Int32)) + a2)]) d10 cv_x7_57 ⟨by decide, by decide⟩ rfl (Nat.le_of_ble_eq_true rfl) (T3_get M (mR M a0 2) ((a1 * (7 : Int32)) + a2)) (fun r10 M10 _ => ?_)
  exact X_ireturn d13 rfl rfl

theorem dd1_left : AllD (ib i1_left) [(0, .aload_n 0, 1), (1, .getfield 20, 3), (4, .iload_n 1, 1), (5, .bipush 15, 2), (7, .imul, 1), (8, .iload_n 2, 1), (9, .iadd, 1), (10, .invokevirtual 64, 3), (13, .lreturn, 1)] := allD_of (by decide +kernel)
def f1_left (M : MM) (a0 : Nat) (a1 : Int32) (a2 : Int32) : Option (Int64 × MM) :=
  aO M a0 1 <|
  aO M (mR M a0 1) 4 <|
  cJ (f4_get M (mR M a0 1) ((a1 * (15 : Int32)) + a2)) fun r10 M10 =>
  some (r10, M10)
set_option maxRecDepth 4000 in
theorem T1_left (M : MM) (a0 : Nat) (a1 : Int32) (a2 : Int32) : ∀ q, f1_left M a0 a1 a2 = some q → Run i1_left [vr a0, vi a1, vi a2] M (Ll q) := by
  obtain ⟨d0, d1, d4, d5, d7, d8, d9, d10, d13, -⟩ := dd1_left
  refine Run_of_X (by decide) (Nat.le_of_ble_eq_true rfl) ?_
  show X Ll i1_left 0 [(0, vr a0), (1, vi a1), (2, vi a2)] [] M _
  unfold f1_left
  refine X_aloadn 0 d0 rfl ?_
  refine X_getR d1 fg_x1_20 ?_
  refine X_iloadn 1 d4 rfl ?_
  refine X_bipush k_b_15 d5 ?_
  refine X_imul d7 ?_
  refine X_iloadn 2 d8 rfl ?_
  refine X_iadd d9 ?_
  refine X_cVl (as := [vi ((a1 * (15 : Int32)) + a2)]) d10 cv_x1_64 ⟨by decide, by decide⟩ rfl (Nat.le_of_ble_eq_true rfl) (T4_get M (mR M a0 1) ((a1 * (15 : Int32)) + a2)) (fun r10 M10 _ => ?_)
  exact X_lreturn d13 rfl rfl

theorem dd1_edge : AllD (ib i1_edge) [(0, .aload_n 0, 1), (1, .getfield 16, 3), (4, .iload_n 1, 1), (5, .bipush 6, 2), (7, .imul, 1), (8, .iload_n 2, 1), (9, .iadd, 1), (10, .bipush 15, 2), (12, .imul, 1), (13, .iload_n 3, 1), (14, .iadd, 1), (15, .invokevirtual 64, 3), (18, .lreturn, 1)] := allD_of (by decide +kernel)
def f1_edge (M : MM) (a0 : Nat) (a1 : Int32) (a2 : Int32) (a3 : Int32) : Option (Int64 × MM) :=
  aO M a0 1 <|
  aO M (mR M a0 0) 4 <|
  cJ (f4_get M (mR M a0 0) ((((a1 * (6 : Int32)) + a2) * (15 : Int32)) + a3)) fun r15 M15 =>
  some (r15, M15)
set_option maxRecDepth 4000 in
theorem T1_edge (M : MM) (a0 : Nat) (a1 : Int32) (a2 : Int32) (a3 : Int32) : ∀ q, f1_edge M a0 a1 a2 a3 = some q → Run i1_edge [vr a0, vi a1, vi a2, vi a3] M (Ll q) := by
  obtain ⟨d0, d1, d4, d5, d7, d8, d9, d10, d12, d13, d14, d15, d18, -⟩ := dd1_edge
  refine Run_of_X (by decide) (Nat.le_of_ble_eq_true rfl) ?_
  show X Ll i1_edge 0 [(0, vr a0), (1, vi a1), (2, vi a2), (3, vi a3)] [] M _
  unfold f1_edge
  refine X_aloadn 0 d0 rfl ?_
  refine X_getR d1 fg_x1_16 ?_
  refine X_iloadn 1 d4 rfl ?_
  refine X_bipush k_b_6 d5 ?_
  refine X_imul d7 ?_
  refine X_iloadn 2 d8 rfl ?_
  refine X_iadd d9 ?_
  refine X_bipush k_b_15 d10 ?_
  refine X_imul d12 ?_
  refine X_iloadn 3 d13 rfl ?_
  refine X_iadd d14 ?_
  refine X_cVl (as := [vi ((((a1 * (6 : Int32)) + a2) * (15 : Int32)) + a3)]) d15 cv_x1_64 ⟨by decide, by decide⟩ rfl (Nat.le_of_ble_eq_true rfl) (T4_get M (mR M a0 0) ((((a1 * (6 : Int32)) + a2) * (15 : Int32)) + a3)) (fun r15 M15 _ => ?_)
  exact X_lreturn d18 rfl rfl

theorem dd4_sum : AllD (ib i4_sum) [(0, .lload_n 0, 1), (1, .ldc2_w 3, 3), (4, .lcmp, 1), (5, .ifCond .ge 11, 3), (8, .lload_n 2, 1), (9, .ldc2_w 3, 3), (12, .lcmp, 1), (13, .ifCond .lt 7, 3), (16, .ldc2_w 3, 3), (19, .lreturn, 1), (20, .lload_n 0, 1), (21, .lload_n 2, 1), (22, .ladd, 1), (23, .ldc2_w 5, 3), (26, .lcmp, 1), (27, .ifCond .le 9, 3), (30, .ldc2_w 5, 3), (33, .goto 6, 3), (36, .lload_n 0, 1), (37, .lload_n 2, 1), (38, .ladd, 1), (39, .lreturn, 1)] := allD_of (by decide +kernel)
def f4_sum (M : MM) (a0 : Int64) (a2 : Int64) : Option (Int64 × MM) :=
  if (1000000000000001 : Int64) ≤ a0 then
    some ((1000000000000001 : Int64), M)
  else
    if a2 < (1000000000000001 : Int64) then
      if (a0 + a2) ≤ (1000000000000000 : Int64) then
        some (a0 + a2, M)
      else
        some ((1000000000000000 : Int64), M)
    else
      some ((1000000000000001 : Int64), M)
set_option maxRecDepth 4000 in
theorem T4_sum (M : MM) (a0 : Int64) (a2 : Int64) : ∀ q, f4_sum M a0 a2 = some q → Run i4_sum [vl a0, vl a2] M (Ll q) := by
  obtain ⟨d0, d1, d4, d5, d8, d9, d12, d13, d16, d19, d20, d21, d22, d23, d26, d27, d30, d33, d36, d37, d38, d39, -⟩ := dd4_sum
  refine Run_of_X (by decide) (Nat.le_of_ble_eq_true rfl) ?_
  show X Ll i4_sum 0 [(0, vl a0), (2, vl a2)] [] M _
  unfold f4_sum
  refine X_lloadn 0 d0 rfl ?_
  refine X_ldc2 kc_x4_3 d1 ?_
  refine X_lif_ge (t := 16) d4 d5 rfl (fun h4 => ?_) (fun h4 => ?_)
  · refine X_ldc2 kc_x4_3 d16 ?_
    exact X_lreturn d19 rfl rfl
  · refine X_lloadn 1 d8 rfl ?_
    refine X_ldc2 kc_x4_3 d9 ?_
    refine X_lif_lt (t := 20) d12 d13 rfl (fun h12 => ?_) (fun h12 => ?_)
    · refine X_lloadn 0 d20 rfl ?_
      refine X_lloadn 1 d21 rfl ?_
      refine X_ladd d22 ?_
      refine X_ldc2 kc_x4_5 d23 ?_
      refine X_lif_le (t := 36) d26 d27 rfl (fun h26 => ?_) (fun h26 => ?_)
      · refine X_lloadn 0 d36 rfl ?_
        refine X_lloadn 1 d37 rfl ?_
        refine X_ladd d38 ?_
        exact X_lreturn d39 rfl rfl
      · refine X_ldc2 kc_x4_5 d30 ?_
        refine X_goto (t := 39) d33 rfl ?_
        exact X_lreturn d39 rfl rfl
    · refine X_ldc2 kc_x4_3 d16 ?_
      exact X_lreturn d19 rfl rfl

theorem dd1_leftBy_b52 : AllD (ib i1_leftBy) [(52, .iinc 6 1, 3), (55, .goto (-47), 3)] := allD_of (by decide +kernel)
def f1_leftBy_b52 (K8 : MM → Nat → Int32 → Int32 → Int32 → Int64 → Int32 → Option (Int64 × MM)) (M : MM) (a0 : Nat) (a1 : Int32) (a2 : Int32) (a3 : Int32) (a4 : Int64) (a6 : Int32) : Option (Int64 × MM) :=
  K8 M a0 a1 a2 a3 a4 (a6 + (1 : Int32))
set_option maxRecDepth 4000 in
theorem T1_leftBy_b52 {K8 : MM → Nat → Int32 → Int32 → Int32 → Int64 → Int32 → Option (Int64 × MM)} (hK8 : ∀ (M : MM) (a0 : Nat) (a1 : Int32) (a2 : Int32) (a3 : Int32) (a4 : Int64) (a6 : Int32), X Ll i1_leftBy 8 [(0, vr a0), (1, vi a1), (2, vi a2), (3, vi a3), (4, vl a4), (6, vi a6)] [] M (K8 M a0 a1 a2 a3 a4 a6)) : ∀ (M : MM) (a0 : Nat) (a1 : Int32) (a2 : Int32) (a3 : Int32) (a4 : Int64) (a6 : Int32), X Ll i1_leftBy 52 [(0, vr a0), (1, vi a1), (2, vi a2), (3, vi a3), (4, vl a4), (6, vi a6)] [] M (f1_leftBy_b52 K8 M a0 a1 a2 a3 a4 a6) := by
  obtain ⟨d52, d55, -⟩ := dd1_leftBy_b52
  intro M a0 a1 a2 a3 a4 a6
  unfold f1_leftBy_b52
  refine X_inc (lv' := [(6, vi (a6 + (1 : Int32))), (0, vr a0), (1, vi a1), (2, vi a2), (3, vi a3), (4, vl a4)]) 5 d52 k_i_1 rfl (by decide) rfl ?_
  refine X_goto (t := 8) d55 rfl ?_
  refine X_sub [1, 2, 3, 4, 5, 0] rfl ?_
  exact hK8 M a0 a1 a2 a3 a4 (a6 + (1 : Int32))

theorem dd1_leftBy_b8 : AllD (ib i1_leftBy) [(8, .iload 6, 2), (10, .bipush 15, 2), (12, .if_icmp .ge 46, 3), (15, .aload_n 0, 1), (16, .iload_n 2, 1), (17, .iload_n 3, 1), (18, .iload 6, 2), (20, .invokevirtual 82, 3), (23, .lstore 7, 2), (25, .lload 7, 2), (27, .lload 4, 2), (29, .lcmp, 1), (30, .ifCond .ge 22, 3), (33, .lload 4, 2), (35, .lload 7, 2), (37, .aload_n 0, 1), (38, .iload_n 1, 1), (39, .iload 6, 2), (41, .invokevirtual 109, 3), (44, .invokestatic 86, 3), (47, .invokestatic 116, 3), (50, .lstore 4, 2), (58, .lload 4, 2), (60, .lreturn, 1)] := allD_of (by decide +kernel)
def f1_leftBy_b8_body (rc : MM → Nat → Int32 → Int32 → Int32 → Int64 → Int32 → Option (Int64 × MM)) (M : MM) (a0 : Nat) (a1 : Int32) (a2 : Int32) (a3 : Int32) (a4 : Int64) (a6 : Int32) : Option (Int64 × MM) :=
  if (15 : Int32) ≤ a6 then
    some (a4, M)
  else
    aO M a0 1 <|
    cJ (f1_edge M a0 a2 a3 a6) fun r20 M20 =>
    if a4 ≤ r20 then
      (f1_leftBy_b52 rc) M20 a0 a1 a2 a3 a4 a6
    else
      aO M20 a0 1 <|
      cJ (f1_left M20 a0 a1 a6) fun r41 M41 =>
      cJ (f4_sum M41 r20 r41) fun r44 M44 =>
      bW (mnL a4 r44) fun v50 =>
      (f1_leftBy_b52 rc) M44 a0 a1 a2 a3 v50 a6
def f1_leftBy_b8 : MM → Nat → Int32 → Int32 → Int32 → Int64 → Int32 → Option (Int64 × MM) := LP7 (f1_leftBy_b8_body) FU
set_option maxRecDepth 4000 in
theorem T1_leftBy_b8 : ∀ (M : MM) (a0 : Nat) (a1 : Int32) (a2 : Int32) (a3 : Int32) (a4 : Int64) (a6 : Int32), X Ll i1_leftBy 8 [(0, vr a0), (1, vi a1), (2, vi a2), (3, vi a3), (4, vl a4), (6, vi a6)] [] M (f1_leftBy_b8 M a0 a1 a2 a3 a4 a6) := by
  obtain ⟨d8, d10, d12, d15, d16, d17, d18, d20, d23, d25, d27, d29, d30, d33, d35, d37, d38, d39, d41, d44, d47, d50, d58, d60, -⟩ := dd1_leftBy_b8
  refine LP7_i (P := fun M a0 a1 a2 a3 a4 a6 o => X Ll i1_leftBy 8 [(0, vr a0), (1, vi a1), (2, vi a2), (3, vi a3), (4, vl a4), (6, vi a6)] [] M o) (fun _ _ _ _ _ _ _ => X_none) (fun rc ih M a0 a1 a2 a3 a4 a6 => ?_) FU
  unfold f1_leftBy_b8_body
  refine X_iload 5 d8 rfl ?_
  refine X_bipush k_b_15 d10 ?_
  refine X_icmp_ge (t := 58) d12 rfl (fun h12 => ?_) (fun h12 => ?_)
  · refine X_lload 4 d58 rfl ?_
    exact X_lreturn d60 rfl rfl
  · refine X_aloadn 0 d15 rfl ?_
    refine X_iloadn 2 d16 rfl ?_
    refine X_iloadn 3 d17 rfl ?_
    refine X_iload 5 d18 rfl ?_
    refine X_cVl (as := [vi a2, vi a3, vi a6]) d20 cv_x1_82 ⟨by decide, by decide⟩ rfl (Nat.le_of_ble_eq_true rfl) (T1_edge M a0 a2 a3 a6) (fun r20 M20 _ => ?_)
    refine X_lstore (lv' := [(7, vl r20), (0, vr a0), (1, vi a1), (2, vi a2), (3, vi a3), (4, vl a4), (6, vi a6)]) d23 (by decide) rfl ?_
    refine X_lload 0 d25 rfl ?_
    refine X_lload 5 d27 rfl ?_
    refine X_lif_ge (t := 52) d29 d30 rfl (fun h29 => ?_) (fun h29 => ?_)
    · refine X_sub [1, 2, 3, 4, 5, 6] rfl ?_
      exact (T1_leftBy_b52 ih) M20 a0 a1 a2 a3 a4 a6
    · refine X_lload 5 d33 rfl ?_
      refine X_lload 0 d35 rfl ?_
      refine X_aloadn 1 d37 rfl ?_
      refine X_iloadn 2 d38 rfl ?_
      refine X_iload 6 d39 rfl ?_
      refine X_cVl (as := [vi a1, vi a6]) d41 cv_x1_109 ⟨by decide, by decide⟩ rfl (Nat.le_of_ble_eq_true rfl) (T1_left M20 a0 a1 a6) (fun r41 M41 _ => ?_)
      refine X_cSl (as := [vl r20, vl r41]) d44 cs_x1_86 ⟨by decide, by decide⟩ rfl (Nat.le_of_ble_eq_true rfl) (T4_sum M41 r20 r41) (fun r44 M44 _ => ?_)
      refine X_minL d47 mw_x1_116 ⟨by decide, by decide⟩ (Nat.le_of_ble_eq_true rfl) ?_
      refine X_bWl fun v50 _ => ?_
      refine X_lstore (lv' := [(4, vl v50), (7, vl r20), (0, vr a0), (1, vi a1), (2, vi a2), (3, vi a3), (6, vi a6)]) d50 (by decide) rfl ?_
      refine X_sub [2, 3, 4, 5, 0, 6] rfl ?_
      exact (T1_leftBy_b52 ih) M44 a0 a1 a2 a3 v50 a6

theorem dd1_leftBy : AllD (ib i1_leftBy) [(0, .ldc2_w 23, 3), (3, .lstore 4, 2), (5, .iconst 0, 1), (6, .istore 6, 2)] := allD_of (by decide +kernel)
def f1_leftBy (M : MM) (a0 : Nat) (a1 : Int32) (a2 : Int32) (a3 : Int32) : Option (Int64 × MM) :=
  f1_leftBy_b8 M a0 a1 a2 a3 (1000000000000001 : Int64) (0 : Int32)
set_option maxRecDepth 4000 in
theorem T1_leftBy (M : MM) (a0 : Nat) (a1 : Int32) (a2 : Int32) (a3 : Int32) : ∀ q, f1_leftBy M a0 a1 a2 a3 = some q → Run i1_leftBy [vr a0, vi a1, vi a2, vi a3] M (Ll q) := by
  obtain ⟨d0, d3, d5, d6, -⟩ := dd1_leftBy
  refine Run_of_X (by decide) (Nat.le_of_ble_eq_true rfl) ?_
  show X Ll i1_leftBy 0 [(0, vr a0), (1, vi a1), (2, vi a2), (3, vi a3)] [] M _
  unfold f1_leftBy
  refine X_ldc2 kc_x1_23 d0 ?_
  refine X_lstore (lv' := [(4, vl (1000000000000001 : Int64)), (0, vr a0), (1, vi a1), (2, vi a2), (3, vi a3)]) d3 (by decide) rfl ?_
  refine X_iconst k_i_0 d5 ?_
  refine X_istore (lv' := [(6, vi (0 : Int32)), (4, vl (1000000000000001 : Int64)), (0, vr a0), (1, vi a1), (2, vi a2), (3, vi a3)]) d6 (by decide) rfl ?_
  refine X_sub [2, 3, 4, 5, 1, 0] rfl ?_
  exact T1_leftBy_b8 M a0 a1 a2 a3 (1000000000000001 : Int64) (0 : Int32)

theorem dd1_behind_b121 : AllD (ib i1_behind) [(121, .iinc 10 1, 3), (124, .goto (-52), 3)] := allD_of (by decide +kernel)
def f1_behind_b121 (K72 : MM → Nat → Int32 → Int32 → Int32 → Int32 → Int64 → Int32 → Option (Int64 × MM)) (M : MM) (a0 : Nat) (a4 : Int32) (a5 : Int32) (a6 : Int32) (a7 : Int32) (a8 : Int64) (a10 : Int32) : Option (Int64 × MM) :=
  K72 M a0 a4 a5 a6 a7 a8 (a10 + (1 : Int32))
set_option maxRecDepth 4000 in
theorem T1_behind_b121 {K72 : MM → Nat → Int32 → Int32 → Int32 → Int32 → Int64 → Int32 → Option (Int64 × MM)} (hK72 : ∀ (M : MM) (a0 : Nat) (a4 : Int32) (a5 : Int32) (a6 : Int32) (a7 : Int32) (a8 : Int64) (a10 : Int32), X Ll i1_behind 72 [(0, vr a0), (4, vi a4), (5, vi a5), (6, vi a6), (7, vi a7), (8, vl a8), (10, vi a10)] [] M (K72 M a0 a4 a5 a6 a7 a8 a10)) : ∀ (M : MM) (a0 : Nat) (a4 : Int32) (a5 : Int32) (a6 : Int32) (a7 : Int32) (a8 : Int64) (a10 : Int32), X Ll i1_behind 121 [(0, vr a0), (4, vi a4), (5, vi a5), (6, vi a6), (7, vi a7), (8, vl a8), (10, vi a10)] [] M (f1_behind_b121 K72 M a0 a4 a5 a6 a7 a8 a10) := by
  obtain ⟨d121, d124, -⟩ := dd1_behind_b121
  intro M a0 a4 a5 a6 a7 a8 a10
  unfold f1_behind_b121
  refine X_inc (lv' := [(10, vi (a10 + (1 : Int32))), (0, vr a0), (4, vi a4), (5, vi a5), (6, vi a6), (7, vi a7), (8, vl a8)]) 6 d121 k_i_1 rfl (by decide) rfl ?_
  refine X_goto (t := 72) d124 rfl ?_
  refine X_sub [1, 2, 3, 4, 5, 6, 0] rfl ?_
  exact hK72 M a0 a4 a5 a6 a7 a8 (a10 + (1 : Int32))

theorem dd1_behind_b72 : AllD (ib i1_behind) [(72, .iload 10, 2), (74, .bipush 15, 2), (76, .if_icmp .ge 51, 3), (79, .aload_n 0, 1), (80, .iload 5, 2), (82, .iload 6, 2), (84, .iload 10, 2), (86, .invokevirtual 82, 3), (89, .lstore 11, 2), (91, .lload 11, 2), (93, .lload 8, 2), (95, .lcmp, 1), (96, .ifCond .ge 25, 3), (99, .lload 8, 2), (101, .lload 11, 2), (103, .aload_n 0, 1), (104, .iload 4, 2), (106, .iload 10, 2), (108, .iload 7, 2), (110, .invokevirtual 113, 3), (113, .invokestatic 86, 3), (116, .invokestatic 116, 3), (119, .lstore 8, 2), (127, .lload 8, 2), (129, .lreturn, 1)] := allD_of (by decide +kernel)
def f1_behind_b72_body (rc : MM → Nat → Int32 → Int32 → Int32 → Int32 → Int64 → Int32 → Option (Int64 × MM)) (M : MM) (a0 : Nat) (a4 : Int32) (a5 : Int32) (a6 : Int32) (a7 : Int32) (a8 : Int64) (a10 : Int32) : Option (Int64 × MM) :=
  if (15 : Int32) ≤ a10 then
    some (a8, M)
  else
    aO M a0 1 <|
    cJ (f1_edge M a0 a5 a6 a10) fun r86 M86 =>
    if a8 ≤ r86 then
      (f1_behind_b121 rc) M86 a0 a4 a5 a6 a7 a8 a10
    else
      aO M86 a0 1 <|
      cJ (f1_leftBy M86 a0 a4 a10 a7) fun r110 M110 =>
      cJ (f4_sum M110 r86 r110) fun r113 M113 =>
      bW (mnL a8 r113) fun v119 =>
      (f1_behind_b121 rc) M113 a0 a4 a5 a6 a7 v119 a10
def f1_behind_b72 : MM → Nat → Int32 → Int32 → Int32 → Int32 → Int64 → Int32 → Option (Int64 × MM) := LP8 (f1_behind_b72_body) FU
set_option maxRecDepth 4000 in
theorem T1_behind_b72 : ∀ (M : MM) (a0 : Nat) (a4 : Int32) (a5 : Int32) (a6 : Int32) (a7 : Int32) (a8 : Int64) (a10 : Int32), X Ll i1_behind 72 [(0, vr a0), (4, vi a4), (5, vi a5), (6, vi a6), (7, vi a7), (8, vl a8), (10, vi a10)] [] M (f1_behind_b72 M a0 a4 a5 a6 a7 a8 a10) := by
  obtain ⟨d72, d74, d76, d79, d80, d82, d84, d86, d89, d91, d93, d95, d96, d99, d101, d103, d104, d106, d108, d110, d113, d116, d119, d127, d129, -⟩ := dd1_behind_b72
  refine LP8_i (P := fun M a0 a4 a5 a6 a7 a8 a10 o => X Ll i1_behind 72 [(0, vr a0), (4, vi a4), (5, vi a5), (6, vi a6), (7, vi a7), (8, vl a8), (10, vi a10)] [] M o) (fun _ _ _ _ _ _ _ _ => X_none) (fun rc ih M a0 a4 a5 a6 a7 a8 a10 => ?_) FU
  unfold f1_behind_b72_body
  refine X_iload 6 d72 rfl ?_
  refine X_bipush k_b_15 d74 ?_
  refine X_icmp_ge (t := 127) d76 rfl (fun h76 => ?_) (fun h76 => ?_)
  · refine X_lload 5 d127 rfl ?_
    exact X_lreturn d129 rfl rfl
  · refine X_aloadn 0 d79 rfl ?_
    refine X_iload 2 d80 rfl ?_
    refine X_iload 3 d82 rfl ?_
    refine X_iload 6 d84 rfl ?_
    refine X_cVl (as := [vi a5, vi a6, vi a10]) d86 cv_x1_82 ⟨by decide, by decide⟩ rfl (Nat.le_of_ble_eq_true rfl) (T1_edge M a0 a5 a6 a10) (fun r86 M86 _ => ?_)
    refine X_lstore (lv' := [(11, vl r86), (0, vr a0), (4, vi a4), (5, vi a5), (6, vi a6), (7, vi a7), (8, vl a8), (10, vi a10)]) d89 (by decide) rfl ?_
    refine X_lload 0 d91 rfl ?_
    refine X_lload 6 d93 rfl ?_
    refine X_lif_ge (t := 121) d95 d96 rfl (fun h95 => ?_) (fun h95 => ?_)
    · refine X_sub [1, 2, 3, 4, 5, 6, 7] rfl ?_
      exact (T1_behind_b121 ih) M86 a0 a4 a5 a6 a7 a8 a10
    · refine X_lload 6 d99 rfl ?_
      refine X_lload 0 d101 rfl ?_
      refine X_aloadn 1 d103 rfl ?_
      refine X_iload 2 d104 rfl ?_
      refine X_iload 7 d106 rfl ?_
      refine X_iload 5 d108 rfl ?_
      refine X_cVl (as := [vi a4, vi a10, vi a7]) d110 cv_x1_113 ⟨by decide, by decide⟩ rfl (Nat.le_of_ble_eq_true rfl) (T1_leftBy M86 a0 a4 a10 a7) (fun r110 M110 _ => ?_)
      refine X_cSl (as := [vl r86, vl r110]) d113 cs_x1_86 ⟨by decide, by decide⟩ rfl (Nat.le_of_ble_eq_true rfl) (T4_sum M110 r86 r110) (fun r113 M113 _ => ?_)
      refine X_minL d116 mw_x1_116 ⟨by decide, by decide⟩ (Nat.le_of_ble_eq_true rfl) ?_
      refine X_bWl fun v119 _ => ?_
      refine X_lstore (lv' := [(8, vl v119), (11, vl r86), (0, vr a0), (4, vi a4), (5, vi a5), (6, vi a6), (7, vi a7), (10, vi a10)]) d119 (by decide) rfl ?_
      refine X_sub [2, 3, 4, 5, 6, 0, 7] rfl ?_
      exact (T1_behind_b121 ih) M113 a0 a4 a5 a6 a7 v119 a10

theorem dd1_behind : AllD (ib i1_behind) [(0, .aload_n 1, 1), (1, .getfield 94, 3), (4, .iconst 1, 1), (5, .isub, 1), (6, .istore 4, 2), (8, .aload_n 2, 1), (9, .iload_n 3, 1), (10, .iconst 2, 1), (11, .invokevirtual 79, 3), (14, .istore 5, 2), (16, .aload_n 2, 1), (17, .iload_n 3, 1), (18, .iconst 4, 1), (19, .invokevirtual 79, 3), (22, .istore 6, 2), (24, .aload_n 2, 1), (25, .iload_n 3, 1), (26, .iconst 5, 1), (27, .invokevirtual 79, 3), (30, .istore 7, 2), (32, .iload 6, 2), (34, .iconst (-1), 1), (35, .if_icmp .ne 12, 3), (38, .aload_n 0, 1), (39, .iload 4, 2), (41, .iload 5, 2), (43, .invokevirtual 109, 3), (46, .lreturn, 1), (47, .iload 7, 2), (49, .iconst (-1), 1), (50, .if_icmp .ne 14, 3), (53, .aload_n 0, 1), (54, .iload 4, 2), (56, .iload 5, 2), (58, .iload 6, 2), (60, .invokevirtual 113, 3), (63, .lreturn, 1), (64, .ldc2_w 23, 3), (67, .lstore 8, 2), (69, .iconst 0, 1), (70, .istore 10, 2)] := allD_of (by decide +kernel)
def f1_behind (M : MM) (a0 : Nat) (a1 : Nat) (a2 : Nat) (a3 : Int32) : Option (Int64 × MM) :=
  aO M a1 6 <|
  bW ((mI M a1 3) - (1 : Int32)) fun v6 =>
  aO M a2 7 <|
  cI (f7_ofRule M a2 a3 (2 : Int32)) fun r11 M11 =>
  aO M11 a2 7 <|
  cI (f7_ofRule M11 a2 a3 (4 : Int32)) fun r19 M19 =>
  aO M19 a2 7 <|
  cI (f7_ofRule M19 a2 a3 (5 : Int32)) fun r27 M27 =>
  if r19 = (-1 : Int32) then
    aO M27 a0 1 <|
    cJ (f1_left M27 a0 v6 r11) fun r43 M43 =>
    some (r43, M43)
  else
    if r27 = (-1 : Int32) then
      aO M27 a0 1 <|
      cJ (f1_leftBy M27 a0 v6 r11 r19) fun r60 M60 =>
      some (r60, M60)
    else
      f1_behind_b72 M27 a0 v6 r11 r19 r27 (1000000000000001 : Int64) (0 : Int32)
set_option maxRecDepth 4000 in
theorem T1_behind (M : MM) (a0 : Nat) (a1 : Nat) (a2 : Nat) (a3 : Int32) : ∀ q, f1_behind M a0 a1 a2 a3 = some q → Run i1_behind [vr a0, vr a1, vr a2, vi a3] M (Ll q) := by
  obtain ⟨d0, d1, d4, d5, d6, d8, d9, d10, d11, d14, d16, d17, d18, d19, d22, d24, d25, d26, d27, d30, d32, d34, d35, d38, d39, d41, d43, d46, d47, d49, d50, d53, d54, d56, d58, d60, d63, d64, d67, d69, d70, -⟩ := dd1_behind
  refine Run_of_X (by decide) (Nat.le_of_ble_eq_true rfl) ?_
  show X Ll i1_behind 0 [(0, vr a0), (1, vr a1), (2, vr a2), (3, vi a3)] [] M _
  unfold f1_behind
  refine X_aloadn 1 d0 rfl ?_
  refine X_getI d1 fg_x1_94 ?_
  refine X_iconst k_i_1 d4 ?_
  refine X_isub d5 ?_
  refine X_bWi fun v6 _ => ?_
  refine X_istore (lv' := [(4, vi v6), (0, vr a0), (1, vr a1), (2, vr a2), (3, vi a3)]) d6 (by decide) rfl ?_
  refine X_aloadn 3 d8 rfl ?_
  refine X_iloadn 4 d9 rfl ?_
  refine X_iconst k_i_2 d10 ?_
  refine X_cVi (as := [vi a3, vi (2 : Int32)]) d11 cv_x1_79 ⟨by decide, by decide⟩ rfl (Nat.le_of_ble_eq_true rfl) (T7_ofRule M a2 a3 (2 : Int32)) (fun r11 M11 _ => ?_)
  refine X_istore (lv' := [(5, vi r11), (4, vi v6), (0, vr a0), (1, vr a1), (2, vr a2), (3, vi a3)]) d14 (by decide) rfl ?_
  refine X_aloadn 4 d16 rfl ?_
  refine X_iloadn 5 d17 rfl ?_
  refine X_iconst k_i_4 d18 ?_
  refine X_cVi (as := [vi a3, vi (4 : Int32)]) d19 cv_x1_79 ⟨by decide, by decide⟩ rfl (Nat.le_of_ble_eq_true rfl) (T7_ofRule M11 a2 a3 (4 : Int32)) (fun r19 M19 _ => ?_)
  refine X_istore (lv' := [(6, vi r19), (5, vi r11), (4, vi v6), (0, vr a0), (1, vr a1), (2, vr a2), (3, vi a3)]) d22 (by decide) rfl ?_
  refine X_aloadn 5 d24 rfl ?_
  refine X_iloadn 6 d25 rfl ?_
  refine X_iconst k_i_5 d26 ?_
  refine X_cVi (as := [vi a3, vi (5 : Int32)]) d27 cv_x1_79 ⟨by decide, by decide⟩ rfl (Nat.le_of_ble_eq_true rfl) (T7_ofRule M19 a2 a3 (5 : Int32)) (fun r27 M27 _ => ?_)
  refine X_istore (lv' := [(7, vi r27), (6, vi r19), (5, vi r11), (4, vi v6), (0, vr a0), (1, vr a1), (2, vr a2), (3, vi a3)]) d30 (by decide) rfl ?_
  refine X_iload 1 d32 rfl ?_
  refine X_iconst k_i_m1 d34 ?_
  refine X_icmp_ne (t := 47) d35 rfl (fun h35 => ?_) (fun h35 => ?_)
  · refine X_aloadn 4 d38 rfl ?_
    refine X_iload 3 d39 rfl ?_
    refine X_iload 2 d41 rfl ?_
    refine X_cVl (as := [vi v6, vi r11]) d43 cv_x1_109 ⟨by decide, by decide⟩ rfl (Nat.le_of_ble_eq_true rfl) (T1_left M27 a0 v6 r11) (fun r43 M43 _ => ?_)
    exact X_lreturn d46 rfl rfl
  · refine X_iload 0 d47 rfl ?_
    refine X_iconst k_i_m1 d49 ?_
    refine X_icmp_ne (t := 64) d50 rfl (fun h50 => ?_) (fun h50 => ?_)
    · refine X_aloadn 4 d53 rfl ?_
      refine X_iload 3 d54 rfl ?_
      refine X_iload 2 d56 rfl ?_
      refine X_iload 1 d58 rfl ?_
      refine X_cVl (as := [vi v6, vi r11, vi r19]) d60 cv_x1_113 ⟨by decide, by decide⟩ rfl (Nat.le_of_ble_eq_true rfl) (T1_leftBy M27 a0 v6 r11 r19) (fun r60 M60 _ => ?_)
      exact X_lreturn d63 rfl rfl
    · refine X_ldc2 kc_x1_23 d64 ?_
      refine X_lstore (lv' := [(8, vl (1000000000000001 : Int64)), (7, vi r27), (6, vi r19), (5, vi r11), (4, vi v6), (0, vr a0), (1, vr a1), (2, vr a2), (3, vi a3)]) d67 (by decide) rfl ?_
      refine X_iconst k_i_0 d69 ?_
      refine X_istore (lv' := [(10, vi (0 : Int32)), (8, vl (1000000000000001 : Int64)), (7, vi r27), (6, vi r19), (5, vi r11), (4, vi v6), (0, vr a0), (1, vr a1), (2, vr a2), (3, vi a3)]) d70 (by decide) rfl ?_
      refine X_sub [6, 5, 4, 3, 2, 1, 0] rfl ?_
      exact T1_behind_b72 M27 a0 v6 r11 r19 r27 (1000000000000001 : Int64) (0 : Int32)

theorem dd4_init_b14 : AllD (ib i4_init) [(14, .newarray .long, 2), (16, .putfield 13, 3), (19, .return_, 1)] := allD_of (by decide +kernel)
def f4_init_b14 (M : MM) (s0 : Int32) (s1 : Nat) : Option MM :=
  gd (¬ s0 < 0 ∧ s0.toNatClampNeg ≤ 60000000) <|
  bW (mz M) fun q14 =>
  bM (nw M 1 s0.toNatClampNeg) fun M14 =>
  aO M14 s1 4 <|
  bM (sR M14 s1 0 q14) fun M16 =>
  some M16
set_option maxRecDepth 4000 in
theorem T4_init_b14 : ∀ (M : MM) (s0 : Int32) (s1 : Nat), X Lv i4_init 14 [] [vi s0, vr s1] M (f4_init_b14 M s0 s1) := by
  obtain ⟨d14, d16, d19, -⟩ := dd4_init_b14
  intro M s0 s1
  unfold f4_init_b14
  refine X_newJ d14 ac_long ?_
  refine X_bWr fun q14 _ => ?_
  refine X_bM fun M14 _ => ?_
  refine X_putR d16 fp_x4_13 (RefT.arr _) ?_
  refine X_bM fun M16 _ => ?_
  exact X_vreturn d19 rfl rfl

theorem dd4_init : AllD (ib i4_init) [(0, .aload_n 0, 1), (1, .invokespecial 7, 3), (4, .aload_n 0, 1), (5, .iload_n 1, 1), (6, .ifCond .ge 7, 3), (9, .iconst 0, 1), (10, .goto 4, 3), (13, .iload_n 1, 1)] := allD_of (by decide +kernel)
def f4_init (M : MM) (a0 : Nat) (a1 : Int32) : Option MM :=
  gd (a0 ≠ 0) <|
  if 0 ≤ a1 then
    f4_init_b14 M a1 a0
  else
    f4_init_b14 M (0 : Int32) a0
set_option maxRecDepth 4000 in
theorem T4_init (M : MM) (a0 : Nat) (a1 : Int32) : ∀ q, f4_init M a0 a1 = some q → Run i4_init [vr a0, vi a1] M (Lv q) := by
  obtain ⟨d0, d1, d4, d5, d6, d9, d10, d13, -⟩ := dd4_init
  refine Run_of_X (by decide) (Nat.le_of_ble_eq_true rfl) ?_
  show X Lv i4_init 0 [(0, vr a0), (1, vi a1)] [] M _
  unfold f4_init
  refine X_aloadn 0 d0 rfl ?_
  refine X_objInit d1 oi_x4_7 (by decide) (Nat.le_of_ble_eq_true rfl) ?_
  refine X_aloadn 0 d4 rfl ?_
  refine X_iloadn 1 d5 rfl ?_
  refine X_if_ge (t := 13) d6 rfl (fun h6 => ?_) (fun h6 => ?_)
  · refine X_iloadn 1 d13 rfl ?_
    refine X_sub [] rfl ?_
    exact T4_init_b14 M a1 a0
  · refine X_iconst k_i_0 d9 ?_
    refine X_goto (t := 14) d10 rfl ?_
    refine X_sub [] rfl ?_
    exact T4_init_b14 M (0 : Int32) a0

theorem dd1_init : AllD (ib i1_init) [(0, .aload_n 0, 1), (1, .invokespecial 5, 3), (4, .aload_n 0, 1), (5, .new 11, 3), (8, .dup, 1), (9, .sipush 1350, 3), (12, .invokespecial 13, 3), (15, .putfield 16, 3), (18, .aload_n 0, 1), (19, .new 11, 3), (22, .dup, 1), (23, .iload_n 1, 1), (24, .iconst 1, 1), (25, .iadd, 1), (26, .bipush 15, 2), (28, .imul, 1), (29, .invokespecial 13, 3), (32, .putfield 20, 3), (35, .return_, 1)] := allD_of (by decide +kernel)
def f1_init (M : MM) (a0 : Nat) (a1 : Int32) : Option MM :=
  gd (a0 ≠ 0) <|
  bW (mz M) fun q5 =>
  bM (nw M 7 1) fun M5 =>
  gd (q5 ≠ 0) <|
  cV (f4_init M5 q5 (1350 : Int32)) fun M12 =>
  aO M12 a0 1 <|
  bM (sR M12 a0 0 q5) fun M15 =>
  bW (mz M15) fun q19 =>
  bM (nw M15 7 1) fun M19 =>
  gd (q19 ≠ 0) <|
  cV (f4_init M19 q19 ((a1 + (1 : Int32)) * (15 : Int32))) fun M29 =>
  aO M29 a0 1 <|
  bM (sR M29 a0 1 q19) fun M32 =>
  some M32
set_option maxRecDepth 4000 in
theorem T1_init (M : MM) (a0 : Nat) (a1 : Int32) : ∀ q, f1_init M a0 a1 = some q → Run i1_init [vr a0, vi a1] M (Lv q) := by
  obtain ⟨d0, d1, d4, d5, d8, d9, d12, d15, d18, d19, d22, d23, d24, d25, d26, d28, d29, d32, d35, -⟩ := dd1_init
  refine Run_of_X (by decide) (Nat.le_of_ble_eq_true rfl) ?_
  show X Lv i1_init 0 [(0, vr a0), (1, vi a1)] [] M _
  unfold f1_init
  refine X_aloadn 0 d0 rfl ?_
  refine X_objInit d1 oi_x1_5 (by decide) (Nat.le_of_ble_eq_true rfl) ?_
  refine X_aloadn 0 d4 rfl ?_
  refine X_new d5 nc_x1_11 ?_
  refine X_bWr fun q5 _ => ?_
  refine X_bM fun M5 _ => ?_
  refine X_dupr d8 ?_
  refine X_sipush k_s_1350 d9 ?_
  refine X_cIv (as := [vi (1350 : Int32)]) d12 ci_x1_13 ⟨by decide, by decide⟩ rfl (Nat.le_of_ble_eq_true rfl) (T4_init M5 q5 (1350 : Int32)) (fun M12 _ => ?_)
  refine X_putRF d15 fp_x1_16 (RefT.obj _) rfl rfl ?_
  refine X_bM fun M15 _ => ?_
  refine X_aloadn 0 d18 rfl ?_
  refine X_new d19 nc_x1_11 ?_
  refine X_bWr fun q19 _ => ?_
  refine X_bM fun M19 _ => ?_
  refine X_dupr d22 ?_
  refine X_iloadn 1 d23 rfl ?_
  refine X_iconst k_i_1 d24 ?_
  refine X_iadd d25 ?_
  refine X_bipush k_b_15 d26 ?_
  refine X_imul d28 ?_
  refine X_cIv (as := [vi ((a1 + (1 : Int32)) * (15 : Int32))]) d29 ci_x1_13 ⟨by decide, by decide⟩ rfl (Nat.le_of_ble_eq_true rfl) (T4_init M19 q19 ((a1 + (1 : Int32)) * (15 : Int32))) (fun M29 _ => ?_)
  refine X_putRF d32 fp_x1_20 (RefT.obj _) rfl rfl ?_
  refine X_bM fun M32 _ => ?_
  exact X_vreturn d35 rfl rfl

theorem dd1_layRow_b2 : AllD (ib i1_layRow) [(2, .iload_n 3, 1), (3, .bipush 15, 2), (5, .if_icmp .ge 31, 3), (8, .aload_n 0, 1), (9, .getfield 20, 3), (12, .iload_n 1, 1), (13, .iconst 1, 1), (14, .iadd, 1), (15, .bipush 15, 2), (17, .imul, 1), (18, .iload_n 3, 1), (19, .iadd, 1), (20, .aload_n 0, 1), (21, .iload_n 1, 1), (22, .iload_n 3, 1), (23, .iload_n 2, 1), (24, .invokevirtual 113, 3), (27, .invokevirtual 33, 3), (30, .iinc 3 1, 3), (33, .goto (-31), 3), (36, .return_, 1)] := allD_of (by decide +kernel)
def f1_layRow_b2_body (rc : MM → Nat → Int32 → Int32 → Int32 → Option MM) (M : MM) (a0 : Nat) (a1 : Int32) (a2 : Int32) (a3 : Int32) : Option MM :=
  if (15 : Int32) ≤ a3 then
    some M
  else
    aO M a0 1 <|
    aO M a0 1 <|
    cJ (f1_leftBy M a0 a1 a3 a2) fun r24 M24 =>
    aO M24 (mR M a0 1) 4 <|
    cV (f4_set M24 (mR M a0 1) (((a1 + (1 : Int32)) * (15 : Int32)) + a3) r24) fun M27 =>
    rc M27 a0 a1 a2 (a3 + (1 : Int32))
def f1_layRow_b2 : MM → Nat → Int32 → Int32 → Int32 → Option MM := LP5 (f1_layRow_b2_body) FU
set_option maxRecDepth 4000 in
theorem T1_layRow_b2 : ∀ (M : MM) (a0 : Nat) (a1 : Int32) (a2 : Int32) (a3 : Int32), X Lv i1_layRow 2 [(0, vr a0), (1, vi a1), (2, vi a2), (3, vi a3)] [] M (f1_layRow_b2 M a0 a1 a2 a3) := by
  obtain ⟨d2, d3, d5, d8, d9, d12, d13, d14, d15, d17, d18, d19, d20, d21, d22, d23, d24, d27, d30, d33, d36, -⟩ := dd1_layRow_b2
  refine LP5_i (P := fun M a0 a1 a2 a3 o => X Lv i1_layRow 2 [(0, vr a0), (1, vi a1), (2, vi a2), (3, vi a3)] [] M o) (fun _ _ _ _ _ => X_none) (fun rc ih M a0 a1 a2 a3 => ?_) FU
  unfold f1_layRow_b2_body
  refine X_iloadn 3 d2 rfl ?_
  refine X_bipush k_b_15 d3 ?_
  refine X_icmp_ge (t := 36) d5 rfl (fun h5 => ?_) (fun h5 => ?_)
  · exact X_vreturn d36 rfl rfl
  · refine X_aloadn 0 d8 rfl ?_
    refine X_getR d9 fg_x1_20 ?_
    refine X_iloadn 1 d12 rfl ?_
    refine X_iconst k_i_1 d13 ?_
    refine X_iadd d14 ?_
    refine X_bipush k_b_15 d15 ?_
    refine X_imul d17 ?_
    refine X_iloadn 3 d18 rfl ?_
    refine X_iadd d19 ?_
    refine X_aloadn 0 d20 rfl ?_
    refine X_iloadn 1 d21 rfl ?_
    refine X_iloadn 3 d22 rfl ?_
    refine X_iloadn 2 d23 rfl ?_
    refine X_cVl (as := [vi a1, vi a3, vi a2]) d24 cv_x1_113 ⟨by decide, by decide⟩ rfl (Nat.le_of_ble_eq_true rfl) (T1_leftBy M a0 a1 a3 a2) (fun r24 M24 _ => ?_)
    refine X_cVv (as := [vi (((a1 + (1 : Int32)) * (15 : Int32)) + a3), vl r24]) d27 cv_x1_33 ⟨by decide, by decide⟩ rfl (Nat.le_of_ble_eq_true rfl) (T4_set M24 (mR M a0 1) (((a1 + (1 : Int32)) * (15 : Int32)) + a3) r24) (fun M27 _ => ?_)
    refine X_inc (lv' := [(3, vi (a3 + (1 : Int32))), (0, vr a0), (1, vi a1), (2, vi a2)]) 3 d30 k_i_1 rfl (by decide) rfl ?_
    refine X_goto (t := 2) d33 rfl ?_
    refine X_sub [1, 2, 3, 0] rfl ?_
    exact ih M27 a0 a1 a2 (a3 + (1 : Int32))

theorem dd1_layRow : AllD (ib i1_layRow) [(0, .iconst 0, 1), (1, .istore_n 3, 1)] := allD_of (by decide +kernel)
def f1_layRow (M : MM) (a0 : Nat) (a1 : Int32) (a2 : Int32) : Option MM :=
  f1_layRow_b2 M a0 a1 a2 (0 : Int32)
set_option maxRecDepth 4000 in
theorem T1_layRow (M : MM) (a0 : Nat) (a1 : Int32) (a2 : Int32) : ∀ q, f1_layRow M a0 a1 a2 = some q → Run i1_layRow [vr a0, vi a1, vi a2] M (Lv q) := by
  obtain ⟨d0, d1, -⟩ := dd1_layRow
  refine Run_of_X (by decide) (Nat.le_of_ble_eq_true rfl) ?_
  show X Lv i1_layRow 0 [(0, vr a0), (1, vi a1), (2, vi a2)] [] M _
  unfold f1_layRow
  refine X_iconst k_i_0 d0 ?_
  refine X_istoren (lv' := [(3, vi (0 : Int32)), (0, vr a0), (1, vi a1), (2, vi a2)]) d1 (by decide) rfl ?_
  refine X_sub [1, 2, 3, 0] rfl ?_
  exact T1_layRow_b2 M a0 a1 a2 (0 : Int32)

theorem dd1_lowerThrough_b41 : AllD (ib i1_lowerThrough) [(41, .iinc 8 1, 3), (44, .goto (-38), 3)] := allD_of (by decide +kernel)
def f1_lowerThrough_b41 (K6 : MM → Nat → Int32 → Int32 → Int32 → Int32 → Int64 → Int32 → Int32 → Option (Int32 × MM)) (M : MM) (a0 : Nat) (a1 : Int32) (a2 : Int32) (a3 : Int32) (a4 : Int32) (a5 : Int64) (a7 : Int32) (a8 : Int32) : Option (Int32 × MM) :=
  K6 M a0 a1 a2 a3 a4 a5 a7 (a8 + (1 : Int32))
set_option maxRecDepth 4000 in
theorem T1_lowerThrough_b41 {K6 : MM → Nat → Int32 → Int32 → Int32 → Int32 → Int64 → Int32 → Int32 → Option (Int32 × MM)} (hK6 : ∀ (M : MM) (a0 : Nat) (a1 : Int32) (a2 : Int32) (a3 : Int32) (a4 : Int32) (a5 : Int64) (a7 : Int32) (a8 : Int32), X Li i1_lowerThrough 6 [(0, vr a0), (1, vi a1), (2, vi a2), (3, vi a3), (4, vi a4), (5, vl a5), (7, vi a7), (8, vi a8)] [] M (K6 M a0 a1 a2 a3 a4 a5 a7 a8)) : ∀ (M : MM) (a0 : Nat) (a1 : Int32) (a2 : Int32) (a3 : Int32) (a4 : Int32) (a5 : Int64) (a7 : Int32) (a8 : Int32), X Li i1_lowerThrough 41 [(0, vr a0), (1, vi a1), (2, vi a2), (3, vi a3), (4, vi a4), (5, vl a5), (7, vi a7), (8, vi a8)] [] M (f1_lowerThrough_b41 K6 M a0 a1 a2 a3 a4 a5 a7 a8) := by
  obtain ⟨d41, d44, -⟩ := dd1_lowerThrough_b41
  intro M a0 a1 a2 a3 a4 a5 a7 a8
  unfold f1_lowerThrough_b41
  refine X_inc (lv' := [(8, vi (a8 + (1 : Int32))), (0, vr a0), (1, vi a1), (2, vi a2), (3, vi a3), (4, vi a4), (5, vl a5), (7, vi a7)]) 7 d41 k_i_1 rfl (by decide) rfl ?_
  refine X_goto (t := 6) d44 rfl ?_
  refine X_sub [1, 2, 3, 4, 5, 6, 7, 0] rfl ?_
  exact hK6 M a0 a1 a2 a3 a4 a5 a7 (a8 + (1 : Int32))

theorem dd1_lowerThrough_b6 : AllD (ib i1_lowerThrough) [(6, .iload 8, 2), (8, .bipush 15, 2), (10, .if_icmp .ge 37, 3), (13, .aload_n 0, 1), (14, .iload_n 1, 1), (15, .iload_n 2, 1), (16, .iload 8, 2), (18, .lload 5, 2), (20, .aload_n 0, 1), (21, .iload_n 3, 1), (22, .iload 4, 2), (24, .iload 8, 2), (26, .invokevirtual 82, 3), (29, .invokestatic 86, 3), (32, .invokevirtual 29, 3), (35, .ifCond .eq 6, 3), (38, .iconst 1, 1), (39, .istore 7, 2), (47, .iload 7, 2), (49, .ireturn, 1)] := allD_of (by decide +kernel)
def f1_lowerThrough_b6_body (rc : MM → Nat → Int32 → Int32 → Int32 → Int32 → Int64 → Int32 → Int32 → Option (Int32 × MM)) (M : MM) (a0 : Nat) (a1 : Int32) (a2 : Int32) (a3 : Int32) (a4 : Int32) (a5 : Int64) (a7 : Int32) (a8 : Int32) : Option (Int32 × MM) :=
  if (15 : Int32) ≤ a8 then
    gd (a7 = 0 ∨ a7 = 1) <|
    some (a7, M)
  else
    aO M a0 1 <|
    cJ (f1_edge M a0 a3 a4 a8) fun r26 M26 =>
    cJ (f4_sum M26 a5 r26) fun r29 M29 =>
    aO M29 a0 1 <|
    cI (f1_lower M29 a0 a1 a2 a8 r29) fun r32 M32 =>
    if r32 = 0 then
      (f1_lowerThrough_b41 rc) M32 a0 a1 a2 a3 a4 a5 a7 a8
    else
      (f1_lowerThrough_b41 rc) M32 a0 a1 a2 a3 a4 a5 (1 : Int32) a8
def f1_lowerThrough_b6 : MM → Nat → Int32 → Int32 → Int32 → Int32 → Int64 → Int32 → Int32 → Option (Int32 × MM) := LP9 (f1_lowerThrough_b6_body) FU
set_option maxRecDepth 4000 in
theorem T1_lowerThrough_b6 : ∀ (M : MM) (a0 : Nat) (a1 : Int32) (a2 : Int32) (a3 : Int32) (a4 : Int32) (a5 : Int64) (a7 : Int32) (a8 : Int32), X Li i1_lowerThrough 6 [(0, vr a0), (1, vi a1), (2, vi a2), (3, vi a3), (4, vi a4), (5, vl a5), (7, vi a7), (8, vi a8)] [] M (f1_lowerThrough_b6 M a0 a1 a2 a3 a4 a5 a7 a8) := by
  obtain ⟨d6, d8, d10, d13, d14, d15, d16, d18, d20, d21, d22, d24, d26, d29, d32, d35, d38, d39, d47, d49, -⟩ := dd1_lowerThrough_b6
  refine LP9_i (P := fun M a0 a1 a2 a3 a4 a5 a7 a8 o => X Li i1_lowerThrough 6 [(0, vr a0), (1, vi a1), (2, vi a2), (3, vi a3), (4, vi a4), (5, vl a5), (7, vi a7), (8, vi a8)] [] M o) (fun _ _ _ _ _ _ _ _ _ => X_none) (fun rc ih M a0 a1 a2 a3 a4 a5 a7 a8 => ?_) FU
  unfold f1_lowerThrough_b6_body
  refine X_iload 7 d6 rfl ?_
  refine X_bipush k_b_15 d8 ?_
  refine X_icmp_ge (t := 47) d10 rfl (fun h10 => ?_) (fun h10 => ?_)
  · refine X_iload 6 d47 rfl ?_
    exact X_zreturn d49 rfl rfl
  · refine X_aloadn 0 d13 rfl ?_
    refine X_iloadn 1 d14 rfl ?_
    refine X_iloadn 2 d15 rfl ?_
    refine X_iload 7 d16 rfl ?_
    refine X_lload 5 d18 rfl ?_
    refine X_aloadn 0 d20 rfl ?_
    refine X_iloadn 3 d21 rfl ?_
    refine X_iload 4 d22 rfl ?_
    refine X_iload 7 d24 rfl ?_
    refine X_cVl (as := [vi a3, vi a4, vi a8]) d26 cv_x1_82 ⟨by decide, by decide⟩ rfl (Nat.le_of_ble_eq_true rfl) (T1_edge M a0 a3 a4 a8) (fun r26 M26 _ => ?_)
    refine X_cSl (as := [vl a5, vl r26]) d29 cs_x1_86 ⟨by decide, by decide⟩ rfl (Nat.le_of_ble_eq_true rfl) (T4_sum M26 a5 r26) (fun r29 M29 _ => ?_)
    refine X_cVi (as := [vi a1, vi a2, vi a8, vl r29]) d32 cv_x1_29 ⟨by decide, by decide⟩ rfl (Nat.le_of_ble_eq_true rfl) (T1_lower M29 a0 a1 a2 a8 r29) (fun r32 M32 _ => ?_)
    refine X_if_eq (t := 41) d35 rfl (fun h35 => ?_) (fun h35 => ?_)
    · exact (T1_lowerThrough_b41 ih) M32 a0 a1 a2 a3 a4 a5 a7 a8
    · refine X_iconst k_i_1 d38 ?_
      refine X_istore (lv' := [(7, vi (1 : Int32)), (0, vr a0), (1, vi a1), (2, vi a2), (3, vi a3), (4, vi a4), (5, vl a5), (8, vi a8)]) d39 (by decide) rfl ?_
      refine X_sub [1, 2, 3, 4, 5, 6, 0, 7] rfl ?_
      exact (T1_lowerThrough_b41 ih) M32 a0 a1 a2 a3 a4 a5 (1 : Int32) a8

theorem dd1_lowerThrough : AllD (ib i1_lowerThrough) [(0, .iconst 0, 1), (1, .istore 7, 2), (3, .iconst 0, 1), (4, .istore 8, 2)] := allD_of (by decide +kernel)
def f1_lowerThrough (M : MM) (a0 : Nat) (a1 : Int32) (a2 : Int32) (a3 : Int32) (a4 : Int32) (a5 : Int64) : Option (Int32 × MM) :=
  f1_lowerThrough_b6 M a0 a1 a2 a3 a4 a5 (0 : Int32) (0 : Int32)
set_option maxRecDepth 4000 in
theorem T1_lowerThrough (M : MM) (a0 : Nat) (a1 : Int32) (a2 : Int32) (a3 : Int32) (a4 : Int32) (a5 : Int64) : ∀ q, f1_lowerThrough M a0 a1 a2 a3 a4 a5 = some q → Run i1_lowerThrough [vr a0, vi a1, vi a2, vi a3, vi a4, vl a5] M (Li q) := by
  obtain ⟨d0, d1, d3, d4, -⟩ := dd1_lowerThrough
  refine Run_of_X (by decide) (Nat.le_of_ble_eq_true rfl) ?_
  show X Li i1_lowerThrough 0 [(0, vr a0), (1, vi a1), (2, vi a2), (3, vi a3), (4, vi a4), (5, vl a5)] [] M _
  unfold f1_lowerThrough
  refine X_iconst k_i_0 d0 ?_
  refine X_istore (lv' := [(7, vi (0 : Int32)), (0, vr a0), (1, vi a1), (2, vi a2), (3, vi a3), (4, vi a4), (5, vl a5)]) d1 (by decide) rfl ?_
  refine X_iconst k_i_0 d3 ?_
  refine X_istore (lv' := [(8, vi (0 : Int32)), (7, vi (0 : Int32)), (0, vr a0), (1, vi a1), (2, vi a2), (3, vi a3), (4, vi a4), (5, vl a5)]) d4 (by decide) rfl ?_
  refine X_sub [2, 3, 4, 5, 6, 7, 1, 0] rfl ?_
  exact T1_lowerThrough_b6 M a0 a1 a2 a3 a4 a5 (0 : Int32) (0 : Int32)

theorem dd1_lowerBy_b151 : AllD (ib i1_lowerBy) [(151, .iconst 1, 1), (152, .goto 4, 3)] := allD_of (by decide +kernel)
def f1_lowerBy_b151 (K156 : MM → Nat → Int32 → Int32 → Int32 → Int32 → Int32 → Int64 → Int32 → Int32 → Option (Int32 × MM)) (M : MM) (a0 : Nat) (a3 : Int32) (a4 : Int32) (a5 : Int32) (a6 : Int32) (a7 : Int32) (a8 : Int64) (a11 : Int32) : Option (Int32 × MM) :=
  K156 M a0 a3 a4 a5 a6 a7 a8 a11 (1 : Int32)
set_option maxRecDepth 4000 in
theorem T1_lowerBy_b151 {K156 : MM → Nat → Int32 → Int32 → Int32 → Int32 → Int32 → Int64 → Int32 → Int32 → Option (Int32 × MM)} (hK156 : ∀ (M : MM) (a0 : Nat) (a3 : Int32) (a4 : Int32) (a5 : Int32) (a6 : Int32) (a7 : Int32) (a8 : Int64) (a11 : Int32) (s0 : Int32), X Li i1_lowerBy 156 [(0, vr a0), (3, vi a3), (4, vi a4), (5, vi a5), (6, vi a6), (7, vi a7), (8, vl a8), (11, vi a11)] [vi s0] M (K156 M a0 a3 a4 a5 a6 a7 a8 a11 s0)) : ∀ (M : MM) (a0 : Nat) (a3 : Int32) (a4 : Int32) (a5 : Int32) (a6 : Int32) (a7 : Int32) (a8 : Int64) (a11 : Int32), X Li i1_lowerBy 151 [(0, vr a0), (3, vi a3), (4, vi a4), (5, vi a5), (6, vi a6), (7, vi a7), (8, vl a8), (11, vi a11)] [] M (f1_lowerBy_b151 K156 M a0 a3 a4 a5 a6 a7 a8 a11) := by
  obtain ⟨d151, d152, -⟩ := dd1_lowerBy_b151
  intro M a0 a3 a4 a5 a6 a7 a8 a11
  unfold f1_lowerBy_b151
  refine X_iconst k_i_1 d151 ?_
  refine X_goto (t := 156) d152 rfl ?_
  exact hK156 M a0 a3 a4 a5 a6 a7 a8 a11 (1 : Int32)

theorem dd1_lowerBy_b156 : AllD (ib i1_lowerBy) [(156, .istore 10, 2)] := allD_of (by decide +kernel)
def f1_lowerBy_b156 (K158 : MM → Nat → Int32 → Int32 → Int32 → Int32 → Int32 → Int64 → Int32 → Int32 → Option (Int32 × MM)) (M : MM) (a0 : Nat) (a3 : Int32) (a4 : Int32) (a5 : Int32) (a6 : Int32) (a7 : Int32) (a8 : Int64) (a11 : Int32) (s0 : Int32) : Option (Int32 × MM) :=
  K158 M a0 a3 a4 a5 a6 a7 a8 s0 a11
set_option maxRecDepth 4000 in
theorem T1_lowerBy_b156 {K158 : MM → Nat → Int32 → Int32 → Int32 → Int32 → Int32 → Int64 → Int32 → Int32 → Option (Int32 × MM)} (hK158 : ∀ (M : MM) (a0 : Nat) (a3 : Int32) (a4 : Int32) (a5 : Int32) (a6 : Int32) (a7 : Int32) (a8 : Int64) (a10 : Int32) (a11 : Int32), X Li i1_lowerBy 158 [(0, vr a0), (3, vi a3), (4, vi a4), (5, vi a5), (6, vi a6), (7, vi a7), (8, vl a8), (10, vi a10), (11, vi a11)] [] M (K158 M a0 a3 a4 a5 a6 a7 a8 a10 a11)) : ∀ (M : MM) (a0 : Nat) (a3 : Int32) (a4 : Int32) (a5 : Int32) (a6 : Int32) (a7 : Int32) (a8 : Int64) (a11 : Int32) (s0 : Int32), X Li i1_lowerBy 156 [(0, vr a0), (3, vi a3), (4, vi a4), (5, vi a5), (6, vi a6), (7, vi a7), (8, vl a8), (11, vi a11)] [vi s0] M (f1_lowerBy_b156 K158 M a0 a3 a4 a5 a6 a7 a8 a11 s0) := by
  obtain ⟨d156, -⟩ := dd1_lowerBy_b156
  intro M a0 a3 a4 a5 a6 a7 a8 a11 s0
  unfold f1_lowerBy_b156
  refine X_istore (lv' := [(10, vi s0), (0, vr a0), (3, vi a3), (4, vi a4), (5, vi a5), (6, vi a6), (7, vi a7), (8, vl a8), (11, vi a11)]) d156 (by decide) rfl ?_
  refine X_sub [1, 2, 3, 4, 5, 6, 7, 0, 8] rfl ?_
  exact hK158 M a0 a3 a4 a5 a6 a7 a8 s0 a11

theorem dd1_lowerBy_b139 : AllD (ib i1_lowerBy) [(139, .istore 14, 2), (141, .iload 10, 2), (143, .ifCond .ne 8, 3), (146, .iload 14, 2), (148, .ifCond .eq 7, 3), (155, .iconst 0, 1)] := allD_of (by decide +kernel)
def f1_lowerBy_b139 (K158 : MM → Nat → Int32 → Int32 → Int32 → Int32 → Int32 → Int64 → Int32 → Int32 → Option (Int32 × MM)) (M : MM) (a0 : Nat) (a3 : Int32) (a4 : Int32) (a5 : Int32) (a6 : Int32) (a7 : Int32) (a8 : Int64) (a10 : Int32) (a11 : Int32) (s0 : Int32) : Option (Int32 × MM) :=
  if a10 = 0 then
    if s0 = 0 then
      (f1_lowerBy_b156 K158) M a0 a3 a4 a5 a6 a7 a8 a11 (0 : Int32)
    else
      (f1_lowerBy_b151 (f1_lowerBy_b156 K158)) M a0 a3 a4 a5 a6 a7 a8 a11
  else
    (f1_lowerBy_b151 (f1_lowerBy_b156 K158)) M a0 a3 a4 a5 a6 a7 a8 a11
set_option maxRecDepth 4000 in
theorem T1_lowerBy_b139 {K158 : MM → Nat → Int32 → Int32 → Int32 → Int32 → Int32 → Int64 → Int32 → Int32 → Option (Int32 × MM)} (hK158 : ∀ (M : MM) (a0 : Nat) (a3 : Int32) (a4 : Int32) (a5 : Int32) (a6 : Int32) (a7 : Int32) (a8 : Int64) (a10 : Int32) (a11 : Int32), X Li i1_lowerBy 158 [(0, vr a0), (3, vi a3), (4, vi a4), (5, vi a5), (6, vi a6), (7, vi a7), (8, vl a8), (10, vi a10), (11, vi a11)] [] M (K158 M a0 a3 a4 a5 a6 a7 a8 a10 a11)) : ∀ (M : MM) (a0 : Nat) (a3 : Int32) (a4 : Int32) (a5 : Int32) (a6 : Int32) (a7 : Int32) (a8 : Int64) (a10 : Int32) (a11 : Int32) (s0 : Int32), X Li i1_lowerBy 139 [(0, vr a0), (3, vi a3), (4, vi a4), (5, vi a5), (6, vi a6), (7, vi a7), (8, vl a8), (10, vi a10), (11, vi a11)] [vi s0] M (f1_lowerBy_b139 K158 M a0 a3 a4 a5 a6 a7 a8 a10 a11 s0) := by
  obtain ⟨d139, d141, d143, d146, d148, d155, -⟩ := dd1_lowerBy_b139
  intro M a0 a3 a4 a5 a6 a7 a8 a10 a11 s0
  unfold f1_lowerBy_b139
  refine X_istore (lv' := [(14, vi s0), (0, vr a0), (3, vi a3), (4, vi a4), (5, vi a5), (6, vi a6), (7, vi a7), (8, vl a8), (10, vi a10), (11, vi a11)]) d139 (by decide) rfl ?_
  refine X_iload 8 d141 rfl ?_
  refine X_if_ne (t := 151) d143 rfl (fun h143 => ?_) (fun h143 => ?_)
  · refine X_iload 0 d146 rfl ?_
    refine X_if_eq (t := 155) d148 rfl (fun h148 => ?_) (fun h148 => ?_)
    · refine X_iconst k_i_0 d155 ?_
      refine X_sub [1, 2, 3, 4, 5, 6, 7, 9] rfl ?_
      exact (T1_lowerBy_b156 hK158) M a0 a3 a4 a5 a6 a7 a8 a11 (0 : Int32)
    · refine X_sub [1, 2, 3, 4, 5, 6, 7, 9] rfl ?_
      exact (T1_lowerBy_b151 (T1_lowerBy_b156 hK158)) M a0 a3 a4 a5 a6 a7 a8 a11
  · refine X_sub [1, 2, 3, 4, 5, 6, 7, 9] rfl ?_
    exact (T1_lowerBy_b151 (T1_lowerBy_b156 hK158)) M a0 a3 a4 a5 a6 a7 a8 a11

theorem dd1_lowerBy_b158 : AllD (ib i1_lowerBy) [(158, .iinc 11 1, 3), (161, .goto (-88), 3)] := allD_of (by decide +kernel)
def f1_lowerBy_b158 (K73 : MM → Nat → Int32 → Int32 → Int32 → Int32 → Int32 → Int64 → Int32 → Int32 → Option (Int32 × MM)) (M : MM) (a0 : Nat) (a3 : Int32) (a4 : Int32) (a5 : Int32) (a6 : Int32) (a7 : Int32) (a8 : Int64) (a10 : Int32) (a11 : Int32) : Option (Int32 × MM) :=
  K73 M a0 a3 a4 a5 a6 a7 a8 a10 (a11 + (1 : Int32))
set_option maxRecDepth 4000 in
theorem T1_lowerBy_b158 {K73 : MM → Nat → Int32 → Int32 → Int32 → Int32 → Int32 → Int64 → Int32 → Int32 → Option (Int32 × MM)} (hK73 : ∀ (M : MM) (a0 : Nat) (a3 : Int32) (a4 : Int32) (a5 : Int32) (a6 : Int32) (a7 : Int32) (a8 : Int64) (a10 : Int32) (a11 : Int32), X Li i1_lowerBy 73 [(0, vr a0), (3, vi a3), (4, vi a4), (5, vi a5), (6, vi a6), (7, vi a7), (8, vl a8), (10, vi a10), (11, vi a11)] [] M (K73 M a0 a3 a4 a5 a6 a7 a8 a10 a11)) : ∀ (M : MM) (a0 : Nat) (a3 : Int32) (a4 : Int32) (a5 : Int32) (a6 : Int32) (a7 : Int32) (a8 : Int64) (a10 : Int32) (a11 : Int32), X Li i1_lowerBy 158 [(0, vr a0), (3, vi a3), (4, vi a4), (5, vi a5), (6, vi a6), (7, vi a7), (8, vl a8), (10, vi a10), (11, vi a11)] [] M (f1_lowerBy_b158 K73 M a0 a3 a4 a5 a6 a7 a8 a10 a11) := by
  obtain ⟨d158, d161, -⟩ := dd1_lowerBy_b158
  intro M a0 a3 a4 a5 a6 a7 a8 a10 a11
  unfold f1_lowerBy_b158
  refine X_inc (lv' := [(11, vi (a11 + (1 : Int32))), (0, vr a0), (3, vi a3), (4, vi a4), (5, vi a5), (6, vi a6), (7, vi a7), (8, vl a8), (10, vi a10)]) 8 d158 k_i_1 rfl (by decide) rfl ?_
  refine X_goto (t := 73) d161 rfl ?_
  refine X_sub [1, 2, 3, 4, 5, 6, 7, 8, 0] rfl ?_
  exact hK73 M a0 a3 a4 a5 a6 a7 a8 a10 (a11 + (1 : Int32))

theorem dd1_lowerBy_b73 : AllD (ib i1_lowerBy) [(73, .iload 11, 2), (75, .bipush 15, 2), (77, .if_icmp .ge 87, 3), (80, .lload 8, 2), (82, .aload_n 0, 1), (83, .iload 5, 2), (85, .iload 6, 2), (87, .iload 11, 2), (89, .invokevirtual 82, 3), (92, .invokestatic 86, 3), (95, .lstore 12, 2), (97, .lload 12, 2), (99, .ldc2_w 23, 3), (102, .lcmp, 1), (103, .ifCond .ge 55, 3), (106, .iload 7, 2), (108, .iconst (-1), 1), (109, .if_icmp .ne 17, 3), (112, .aload_n 0, 1), (113, .iload_n 3, 1), (114, .iload 4, 2), (116, .iload 11, 2), (118, .lload 12, 2), (120, .invokevirtual 29, 3), (123, .goto 16, 3), (126, .aload_n 0, 1), (127, .iload_n 3, 1), (128, .iload 4, 2), (130, .iload 11, 2), (132, .iload 7, 2), (134, .lload 12, 2), (136, .invokevirtual 90, 3), (164, .iload 10, 2), (166, .ireturn, 1)] := allD_of (by decide +kernel)
def f1_lowerBy_b73_body (rc : MM → Nat → Int32 → Int32 → Int32 → Int32 → Int32 → Int64 → Int32 → Int32 → Option (Int32 × MM)) (M : MM) (a0 : Nat) (a3 : Int32) (a4 : Int32) (a5 : Int32) (a6 : Int32) (a7 : Int32) (a8 : Int64) (a10 : Int32) (a11 : Int32) : Option (Int32 × MM) :=
  if (15 : Int32) ≤ a11 then
    gd (a10 = 0 ∨ a10 = 1) <|
    some (a10, M)
  else
    aO M a0 1 <|
    cJ (f1_edge M a0 a5 a6 a11) fun r89 M89 =>
    cJ (f4_sum M89 a8 r89) fun r92 M92 =>
    if (1000000000000001 : Int64) ≤ r92 then
      (f1_lowerBy_b158 rc) M92 a0 a3 a4 a5 a6 a7 a8 a10 a11
    else
      if a7 = (-1 : Int32) then
        aO M92 a0 1 <|
        cI (f1_lower M92 a0 a3 a4 a11 r92) fun r120 M120 =>
        (f1_lowerBy_b139 (f1_lowerBy_b158 rc)) M120 a0 a3 a4 a5 a6 a7 a8 a10 a11 r120
      else
        aO M92 a0 1 <|
        cI (f1_lowerThrough M92 a0 a3 a4 a11 a7 r92) fun r136 M136 =>
        (f1_lowerBy_b139 (f1_lowerBy_b158 rc)) M136 a0 a3 a4 a5 a6 a7 a8 a10 a11 r136
def f1_lowerBy_b73 : MM → Nat → Int32 → Int32 → Int32 → Int32 → Int32 → Int64 → Int32 → Int32 → Option (Int32 × MM) := LP10 (f1_lowerBy_b73_body) FU
set_option maxRecDepth 4000 in
theorem T1_lowerBy_b73 : ∀ (M : MM) (a0 : Nat) (a3 : Int32) (a4 : Int32) (a5 : Int32) (a6 : Int32) (a7 : Int32) (a8 : Int64) (a10 : Int32) (a11 : Int32), X Li i1_lowerBy 73 [(0, vr a0), (3, vi a3), (4, vi a4), (5, vi a5), (6, vi a6), (7, vi a7), (8, vl a8), (10, vi a10), (11, vi a11)] [] M (f1_lowerBy_b73 M a0 a3 a4 a5 a6 a7 a8 a10 a11) := by
  obtain ⟨d73, d75, d77, d80, d82, d83, d85, d87, d89, d92, d95, d97, d99, d102, d103, d106, d108, d109, d112, d113, d114, d116, d118, d120, d123, d126, d127, d128, d130, d132, d134, d136, d164, d166, -⟩ := dd1_lowerBy_b73
  refine LP10_i (P := fun M a0 a3 a4 a5 a6 a7 a8 a10 a11 o => X Li i1_lowerBy 73 [(0, vr a0), (3, vi a3), (4, vi a4), (5, vi a5), (6, vi a6), (7, vi a7), (8, vl a8), (10, vi a10), (11, vi a11)] [] M o) (fun _ _ _ _ _ _ _ _ _ _ => X_none) (fun rc ih M a0 a3 a4 a5 a6 a7 a8 a10 a11 => ?_) FU
  unfold f1_lowerBy_b73_body
  refine X_iload 8 d73 rfl ?_
  refine X_bipush k_b_15 d75 ?_
  refine X_icmp_ge (t := 164) d77 rfl (fun h77 => ?_) (fun h77 => ?_)
  · refine X_iload 7 d164 rfl ?_
    exact X_zreturn d166 rfl rfl
  · refine X_lload 6 d80 rfl ?_
    refine X_aloadn 0 d82 rfl ?_
    refine X_iload 3 d83 rfl ?_
    refine X_iload 4 d85 rfl ?_
    refine X_iload 8 d87 rfl ?_
    refine X_cVl (as := [vi a5, vi a6, vi a11]) d89 cv_x1_82 ⟨by decide, by decide⟩ rfl (Nat.le_of_ble_eq_true rfl) (T1_edge M a0 a5 a6 a11) (fun r89 M89 _ => ?_)
    refine X_cSl (as := [vl a8, vl r89]) d92 cs_x1_86 ⟨by decide, by decide⟩ rfl (Nat.le_of_ble_eq_true rfl) (T4_sum M89 a8 r89) (fun r92 M92 _ => ?_)
    refine X_lstore (lv' := [(12, vl r92), (0, vr a0), (3, vi a3), (4, vi a4), (5, vi a5), (6, vi a6), (7, vi a7), (8, vl a8), (10, vi a10), (11, vi a11)]) d95 (by decide) rfl ?_
    refine X_lload 0 d97 rfl ?_
    refine X_ldc2 kc_x1_23 d99 ?_
    refine X_lif_ge (t := 158) d102 d103 rfl (fun h102 => ?_) (fun h102 => ?_)
    · refine X_sub [1, 2, 3, 4, 5, 6, 7, 8, 9] rfl ?_
      exact (T1_lowerBy_b158 ih) M92 a0 a3 a4 a5 a6 a7 a8 a10 a11
    · refine X_iload 6 d106 rfl ?_
      refine X_iconst k_i_m1 d108 ?_
      refine X_icmp_ne (t := 126) d109 rfl (fun h109 => ?_) (fun h109 => ?_)
      · refine X_aloadn 1 d112 rfl ?_
        refine X_iloadn 2 d113 rfl ?_
        refine X_iload 3 d114 rfl ?_
        refine X_iload 9 d116 rfl ?_
        refine X_lload 0 d118 rfl ?_
        refine X_cVi (as := [vi a3, vi a4, vi a11, vl r92]) d120 cv_x1_29 ⟨by decide, by decide⟩ rfl (Nat.le_of_ble_eq_true rfl) (T1_lower M92 a0 a3 a4 a11 r92) (fun r120 M120 _ => ?_)
        refine X_goto (t := 139) d123 rfl ?_
        refine X_sub [1, 2, 3, 4, 5, 6, 7, 8, 9] rfl ?_
        exact (T1_lowerBy_b139 (T1_lowerBy_b158 ih)) M120 a0 a3 a4 a5 a6 a7 a8 a10 a11 r120
      · refine X_aloadn 1 d126 rfl ?_
        refine X_iloadn 2 d127 rfl ?_
        refine X_iload 3 d128 rfl ?_
        refine X_iload 9 d130 rfl ?_
        refine X_iload 6 d132 rfl ?_
        refine X_lload 0 d134 rfl ?_
        refine X_cVi (as := [vi a3, vi a4, vi a11, vi a7, vl r92]) d136 cv_x1_90 ⟨by decide, by decide⟩ rfl (Nat.le_of_ble_eq_true rfl) (T1_lowerThrough M92 a0 a3 a4 a11 a7 r92) (fun r136 M136 _ => ?_)
        refine X_sub [1, 2, 3, 4, 5, 6, 7, 8, 9] rfl ?_
        exact (T1_lowerBy_b139 (T1_lowerBy_b158 ih)) M136 a0 a3 a4 a5 a6 a7 a8 a10 a11 r136

theorem dd1_lowerBy : AllD (ib i1_lowerBy) [(0, .aload_n 1, 1), (1, .iload_n 2, 1), (2, .iconst 0, 1), (3, .invokevirtual 79, 3), (6, .istore_n 3, 1), (7, .aload_n 1, 1), (8, .iload_n 2, 1), (9, .iconst 1, 1), (10, .invokevirtual 79, 3), (13, .istore 4, 2), (15, .aload_n 1, 1), (16, .iload_n 2, 1), (17, .iconst 2, 1), (18, .invokevirtual 79, 3), (21, .istore 5, 2), (23, .aload_n 1, 1), (24, .iload_n 2, 1), (25, .iconst 4, 1), (26, .invokevirtual 79, 3), (29, .istore 6, 2), (31, .aload_n 1, 1), (32, .iload_n 2, 1), (33, .iconst 5, 1), (34, .invokevirtual 79, 3), (37, .istore 7, 2), (39, .aload_n 1, 1), (40, .iload_n 2, 1), (41, .bipush 6, 2), (43, .invokevirtual 79, 3), (46, .i2l, 1), (47, .lstore 8, 2), (49, .iload 6, 2), (51, .iconst (-1), 1), (52, .if_icmp .ne 15, 3), (55, .aload_n 0, 1), (56, .iload_n 3, 1), (57, .iload 4, 2), (59, .iload 5, 2), (61, .lload 8, 2), (63, .invokevirtual 29, 3), (66, .ireturn, 1), (67, .iconst 0, 1), (68, .istore 10, 2), (70, .iconst 0, 1), (71, .istore 11, 2)] := allD_of (by decide +kernel)
def f1_lowerBy (M : MM) (a0 : Nat) (a1 : Nat) (a2 : Int32) : Option (Int32 × MM) :=
  aO M a1 7 <|
  cI (f7_ofRule M a1 a2 (0 : Int32)) fun r3 M3 =>
  aO M3 a1 7 <|
  cI (f7_ofRule M3 a1 a2 (1 : Int32)) fun r10 M10 =>
  aO M10 a1 7 <|
  cI (f7_ofRule M10 a1 a2 (2 : Int32)) fun r18 M18 =>
  aO M18 a1 7 <|
  cI (f7_ofRule M18 a1 a2 (4 : Int32)) fun r26 M26 =>
  aO M26 a1 7 <|
  cI (f7_ofRule M26 a1 a2 (5 : Int32)) fun r34 M34 =>
  aO M34 a1 7 <|
  cI (f7_ofRule M34 a1 a2 (6 : Int32)) fun r43 M43 =>
  bW (r43.toInt64) fun v47 =>
  if r26 = (-1 : Int32) then
    aO M43 a0 1 <|
    cI (f1_lower M43 a0 r3 r10 r18 v47) fun r63 M63 =>
    gd (r63 = 0 ∨ r63 = 1) <|
    some (r63, M63)
  else
    f1_lowerBy_b73 M43 a0 r3 r10 r18 r26 r34 v47 (0 : Int32) (0 : Int32)
set_option maxRecDepth 4000 in
theorem T1_lowerBy (M : MM) (a0 : Nat) (a1 : Nat) (a2 : Int32) : ∀ q, f1_lowerBy M a0 a1 a2 = some q → Run i1_lowerBy [vr a0, vr a1, vi a2] M (Li q) := by
  obtain ⟨d0, d1, d2, d3, d6, d7, d8, d9, d10, d13, d15, d16, d17, d18, d21, d23, d24, d25, d26, d29, d31, d32, d33, d34, d37, d39, d40, d41, d43, d46, d47, d49, d51, d52, d55, d56, d57, d59, d61, d63, d66, d67, d68, d70, d71, -⟩ := dd1_lowerBy
  refine Run_of_X (by decide) (Nat.le_of_ble_eq_true rfl) ?_
  show X Li i1_lowerBy 0 [(0, vr a0), (1, vr a1), (2, vi a2)] [] M _
  unfold f1_lowerBy
  refine X_aloadn 1 d0 rfl ?_
  refine X_iloadn 2 d1 rfl ?_
  refine X_iconst k_i_0 d2 ?_
  refine X_cVi (as := [vi a2, vi (0 : Int32)]) d3 cv_x1_79 ⟨by decide, by decide⟩ rfl (Nat.le_of_ble_eq_true rfl) (T7_ofRule M a1 a2 (0 : Int32)) (fun r3 M3 _ => ?_)
  refine X_istoren (lv' := [(3, vi r3), (0, vr a0), (1, vr a1), (2, vi a2)]) d6 (by decide) rfl ?_
  refine X_aloadn 2 d7 rfl ?_
  refine X_iloadn 3 d8 rfl ?_
  refine X_iconst k_i_1 d9 ?_
  refine X_cVi (as := [vi a2, vi (1 : Int32)]) d10 cv_x1_79 ⟨by decide, by decide⟩ rfl (Nat.le_of_ble_eq_true rfl) (T7_ofRule M3 a1 a2 (1 : Int32)) (fun r10 M10 _ => ?_)
  refine X_istore (lv' := [(4, vi r10), (3, vi r3), (0, vr a0), (1, vr a1), (2, vi a2)]) d13 (by decide) rfl ?_
  refine X_aloadn 3 d15 rfl ?_
  refine X_iloadn 4 d16 rfl ?_
  refine X_iconst k_i_2 d17 ?_
  refine X_cVi (as := [vi a2, vi (2 : Int32)]) d18 cv_x1_79 ⟨by decide, by decide⟩ rfl (Nat.le_of_ble_eq_true rfl) (T7_ofRule M10 a1 a2 (2 : Int32)) (fun r18 M18 _ => ?_)
  refine X_istore (lv' := [(5, vi r18), (4, vi r10), (3, vi r3), (0, vr a0), (1, vr a1), (2, vi a2)]) d21 (by decide) rfl ?_
  refine X_aloadn 4 d23 rfl ?_
  refine X_iloadn 5 d24 rfl ?_
  refine X_iconst k_i_4 d25 ?_
  refine X_cVi (as := [vi a2, vi (4 : Int32)]) d26 cv_x1_79 ⟨by decide, by decide⟩ rfl (Nat.le_of_ble_eq_true rfl) (T7_ofRule M18 a1 a2 (4 : Int32)) (fun r26 M26 _ => ?_)
  refine X_istore (lv' := [(6, vi r26), (5, vi r18), (4, vi r10), (3, vi r3), (0, vr a0), (1, vr a1), (2, vi a2)]) d29 (by decide) rfl ?_
  refine X_aloadn 5 d31 rfl ?_
  refine X_iloadn 6 d32 rfl ?_
  refine X_iconst k_i_5 d33 ?_
  refine X_cVi (as := [vi a2, vi (5 : Int32)]) d34 cv_x1_79 ⟨by decide, by decide⟩ rfl (Nat.le_of_ble_eq_true rfl) (T7_ofRule M26 a1 a2 (5 : Int32)) (fun r34 M34 _ => ?_)
  refine X_istore (lv' := [(7, vi r34), (6, vi r26), (5, vi r18), (4, vi r10), (3, vi r3), (0, vr a0), (1, vr a1), (2, vi a2)]) d37 (by decide) rfl ?_
  refine X_aloadn 6 d39 rfl ?_
  refine X_iloadn 7 d40 rfl ?_
  refine X_bipush k_b_6 d41 ?_
  refine X_cVi (as := [vi a2, vi (6 : Int32)]) d43 cv_x1_79 ⟨by decide, by decide⟩ rfl (Nat.le_of_ble_eq_true rfl) (T7_ofRule M34 a1 a2 (6 : Int32)) (fun r43 M43 _ => ?_)
  refine X_i2l d46 ?_
  refine X_bWl fun v47 _ => ?_
  refine X_lstore (lv' := [(8, vl v47), (7, vi r34), (6, vi r26), (5, vi r18), (4, vi r10), (3, vi r3), (0, vr a0), (1, vr a1), (2, vi a2)]) d47 (by decide) rfl ?_
  refine X_iload 2 d49 rfl ?_
  refine X_iconst k_i_m1 d51 ?_
  refine X_icmp_ne (t := 67) d52 rfl (fun h52 => ?_) (fun h52 => ?_)
  · refine X_aloadn 6 d55 rfl ?_
    refine X_iloadn 5 d56 rfl ?_
    refine X_iload 4 d57 rfl ?_
    refine X_iload 3 d59 rfl ?_
    refine X_lload 0 d61 rfl ?_
    refine X_cVi (as := [vi r3, vi r10, vi r18, vl v47]) d63 cv_x1_29 ⟨by decide, by decide⟩ rfl (Nat.le_of_ble_eq_true rfl) (T1_lower M43 a0 r3 r10 r18 v47) (fun r63 M63 _ => ?_)
    exact X_zreturn d66 rfl rfl
  · refine X_iconst k_i_0 d67 ?_
    refine X_istore (lv' := [(10, vi (0 : Int32)), (8, vl v47), (7, vi r34), (6, vi r26), (5, vi r18), (4, vi r10), (3, vi r3), (0, vr a0), (1, vr a1), (2, vi a2)]) d68 (by decide) rfl ?_
    refine X_iconst k_i_0 d70 ?_
    refine X_istore (lv' := [(11, vi (0 : Int32)), (10, vi (0 : Int32)), (8, vl v47), (7, vi r34), (6, vi r26), (5, vi r18), (4, vi r10), (3, vi r3), (0, vr a0), (1, vr a1), (2, vi a2)]) d71 (by decide) rfl ?_
    refine X_sub [8, 7, 6, 5, 4, 3, 2, 1, 0] rfl ?_
    exact T1_lowerBy_b73 M43 a0 r3 r10 r18 r26 r34 v47 (0 : Int32) (0 : Int32)

theorem dd1_of_b2 : AllD (ib i1_of) [(2, .iload_n 2, 1), (3, .aload_n 1, 1), (4, .getfield 94, 3), (7, .if_icmp .ge 19, 3), (10, .aload_n 0, 1), (11, .iload_n 2, 1), (12, .aload_n 1, 1), (13, .iload_n 2, 1), (14, .invokevirtual 99, 3), (17, .invokevirtual 103, 3), (20, .iinc 2 1, 3), (23, .goto (-21), 3), (26, .aload_n 0, 1), (27, .aload_n 1, 1), (28, .getfield 94, 3), (31, .aload_n 1, 1), (32, .getfield 106, 3), (35, .invokevirtual 109, 3), (38, .lreturn, 1)] := allD_of (by decide +kernel)
def f1_of_b2_body (rc : MM → Nat → Nat → Int32 → Option (Int64 × MM)) (M : MM) (a0 : Nat) (a1 : Nat) (a2 : Int32) : Option (Int64 × MM) :=
  aO M a1 6 <|
  if (mI M a1 3) ≤ a2 then
    aO M a1 6 <|
    aO M a1 6 <|
    aO M a0 1 <|
    cJ (f1_left M a0 (mI M a1 3) (mI M a1 2)) fun r35 M35 =>
    some (r35, M35)
  else
    aO M a1 6 <|
    cI (f6_signAt M a1 a2) fun r14 M14 =>
    aO M14 a0 1 <|
    cV (f1_layRow M14 a0 a2 r14) fun M17 =>
    rc M17 a0 a1 (a2 + (1 : Int32))
def f1_of_b2 : MM → Nat → Nat → Int32 → Option (Int64 × MM) := LP4 (f1_of_b2_body) FU
set_option maxRecDepth 4000 in
theorem T1_of_b2 : ∀ (M : MM) (a0 : Nat) (a1 : Nat) (a2 : Int32), X Ll i1_of 2 [(0, vr a0), (1, vr a1), (2, vi a2)] [] M (f1_of_b2 M a0 a1 a2) := by
  obtain ⟨d2, d3, d4, d7, d10, d11, d12, d13, d14, d17, d20, d23, d26, d27, d28, d31, d32, d35, d38, -⟩ := dd1_of_b2
  refine LP4_i (P := fun M a0 a1 a2 o => X Ll i1_of 2 [(0, vr a0), (1, vr a1), (2, vi a2)] [] M o) (fun _ _ _ _ => X_none) (fun rc ih M a0 a1 a2 => ?_) FU
  unfold f1_of_b2_body
  refine X_iloadn 2 d2 rfl ?_
  refine X_aloadn 1 d3 rfl ?_
  refine X_getI d4 fg_x1_94 ?_
  refine X_icmp_ge (t := 26) d7 rfl (fun h7 => ?_) (fun h7 => ?_)
  · refine X_aloadn 0 d26 rfl ?_
    refine X_aloadn 1 d27 rfl ?_
    refine X_getI d28 fg_x1_94 ?_
    refine X_aloadn 1 d31 rfl ?_
    refine X_getI d32 fg_x1_106 ?_
    refine X_cVl (as := [vi (mI M a1 3), vi (mI M a1 2)]) d35 cv_x1_109 ⟨by decide, by decide⟩ rfl (Nat.le_of_ble_eq_true rfl) (T1_left M a0 (mI M a1 3) (mI M a1 2)) (fun r35 M35 _ => ?_)
    exact X_lreturn d38 rfl rfl
  · refine X_aloadn 0 d10 rfl ?_
    refine X_iloadn 2 d11 rfl ?_
    refine X_aloadn 1 d12 rfl ?_
    refine X_iloadn 2 d13 rfl ?_
    refine X_cVi (as := [vi a2]) d14 cv_x1_99 ⟨by decide, by decide⟩ rfl (Nat.le_of_ble_eq_true rfl) (T6_signAt M a1 a2) (fun r14 M14 _ => ?_)
    refine X_cVv (as := [vi a2, vi r14]) d17 cv_x1_103 ⟨by decide, by decide⟩ rfl (Nat.le_of_ble_eq_true rfl) (T1_layRow M14 a0 a2 r14) (fun M17 _ => ?_)
    refine X_inc (lv' := [(2, vi (a2 + (1 : Int32))), (0, vr a0), (1, vr a1)]) 2 d20 k_i_1 rfl (by decide) rfl ?_
    refine X_goto (t := 2) d23 rfl ?_
    refine X_sub [1, 2, 0] rfl ?_
    exact ih M17 a0 a1 (a2 + (1 : Int32))

theorem dd1_of : AllD (ib i1_of) [(0, .iconst 0, 1), (1, .istore_n 2, 1)] := allD_of (by decide +kernel)
def f1_of (M : MM) (a0 : Nat) (a1 : Nat) : Option (Int64 × MM) :=
  f1_of_b2 M a0 a1 (0 : Int32)
set_option maxRecDepth 4000 in
theorem T1_of (M : MM) (a0 : Nat) (a1 : Nat) : ∀ q, f1_of M a0 a1 = some q → Run i1_of [vr a0, vr a1] M (Ll q) := by
  obtain ⟨d0, d1, -⟩ := dd1_of
  refine Run_of_X (by decide) (Nat.le_of_ble_eq_true rfl) ?_
  show X Ll i1_of 0 [(0, vr a0), (1, vr a1)] [] M _
  unfold f1_of
  refine X_iconst k_i_0 d0 ?_
  refine X_istoren (lv' := [(2, vi (0 : Int32)), (0, vr a0), (1, vr a1)]) d1 (by decide) rfl ?_
  refine X_sub [1, 2, 0] rfl ?_
  exact T1_of_b2 M a0 a1 (0 : Int32)

theorem dd7_hasRule : AllD (ib i7_hasRule) [(0, .iload_n 1, 1), (1, .ifCond .lt 15, 3), (4, .iload_n 1, 1), (5, .aload_n 0, 1), (6, .getfield 40, 3), (9, .if_icmp .ge 7, 3), (12, .iconst 1, 1), (13, .goto 4, 3), (16, .iconst 0, 1), (17, .ireturn, 1)] := allD_of (by decide +kernel)
def f7_hasRule (M : MM) (a0 : Nat) (a1 : Int32) : Option (Int32 × MM) :=
  if a1 < 0 then
    some ((0 : Int32), M)
  else
    aO M a0 7 <|
    if (mI M a0 6) ≤ a1 then
      some ((0 : Int32), M)
    else
      some ((1 : Int32), M)
set_option maxRecDepth 4000 in
theorem T7_hasRule (M : MM) (a0 : Nat) (a1 : Int32) : ∀ q, f7_hasRule M a0 a1 = some q → Run i7_hasRule [vr a0, vi a1] M (Li q) := by
  obtain ⟨d0, d1, d4, d5, d6, d9, d12, d13, d16, d17, -⟩ := dd7_hasRule
  refine Run_of_X (by decide) (Nat.le_of_ble_eq_true rfl) ?_
  show X Li i7_hasRule 0 [(0, vr a0), (1, vi a1)] [] M _
  unfold f7_hasRule
  refine X_iloadn 1 d0 rfl ?_
  refine X_if_lt (t := 16) d1 rfl (fun h1 => ?_) (fun h1 => ?_)
  · refine X_iconst k_i_0 d16 ?_
    exact X_zreturnc d17 rfl (by decide) rfl
  · refine X_iloadn 1 d4 rfl ?_
    refine X_aloadn 0 d5 rfl ?_
    refine X_getI d6 fg_x7_40 ?_
    refine X_icmp_ge (t := 16) d9 rfl (fun h9 => ?_) (fun h9 => ?_)
    · refine X_iconst k_i_0 d16 ?_
      exact X_zreturnc d17 rfl (by decide) rfl
    · refine X_iconst k_i_1 d12 ?_
      refine X_goto (t := 17) d13 rfl ?_
      exact X_zreturnc d17 rfl (by decide) rfl

theorem dd7_isIn : AllD (ib i7_isIn) [(0, .aload_n 0, 1), (1, .iload_n 1, 1), (2, .invokevirtual 60, 3), (5, .ifCond .eq 15, 3), (8, .iload_n 2, 1), (9, .iload_n 1, 1), (10, .iushr, 1), (11, .iconst 1, 1), (12, .iand, 1), (13, .ifCond .ne 7, 3), (16, .iconst 1, 1), (17, .goto 4, 3), (20, .iconst 0, 1), (21, .ireturn, 1)] := allD_of (by decide +kernel)
def f7_isIn (M : MM) (a0 : Nat) (a1 : Int32) (a2 : Int32) : Option (Int32 × MM) :=
  aO M a0 7 <|
  cI (f7_hasRule M a0 a1) fun r2 M2 =>
  if r2 = 0 then
    some ((0 : Int32), M2)
  else
    if ((ushr a2 a1) &&& (1 : Int32)) = 0 then
      some ((1 : Int32), M2)
    else
      some ((0 : Int32), M2)
set_option maxRecDepth 4000 in
theorem T7_isIn (M : MM) (a0 : Nat) (a1 : Int32) (a2 : Int32) : ∀ q, f7_isIn M a0 a1 a2 = some q → Run i7_isIn [vr a0, vi a1, vi a2] M (Li q) := by
  obtain ⟨d0, d1, d2, d5, d8, d9, d10, d11, d12, d13, d16, d17, d20, d21, -⟩ := dd7_isIn
  refine Run_of_X (by decide) (Nat.le_of_ble_eq_true rfl) ?_
  show X Li i7_isIn 0 [(0, vr a0), (1, vi a1), (2, vi a2)] [] M _
  unfold f7_isIn
  refine X_aloadn 0 d0 rfl ?_
  refine X_iloadn 1 d1 rfl ?_
  refine X_cVi (as := [vi a1]) d2 cv_x7_60 ⟨by decide, by decide⟩ rfl (Nat.le_of_ble_eq_true rfl) (T7_hasRule M a0 a1) (fun r2 M2 _ => ?_)
  refine X_if_eq (t := 20) d5 rfl (fun h5 => ?_) (fun h5 => ?_)
  · refine X_iconst k_i_0 d20 ?_
    exact X_zreturnc d21 rfl (by decide) rfl
  · refine X_iloadn 2 d8 rfl ?_
    refine X_iloadn 1 d9 rfl ?_
    refine X_iushr d10 ?_
    refine X_iconst k_i_1 d11 ?_
    refine X_iand d12 ?_
    refine X_if_ne (t := 20) d13 rfl (fun h13 => ?_) (fun h13 => ?_)
    · refine X_iconst k_i_1 d16 ?_
      refine X_goto (t := 21) d17 rfl ?_
      exact X_zreturnc d21 rfl (by decide) rfl
    · refine X_iconst k_i_0 d20 ?_
      exact X_zreturnc d21 rfl (by decide) rfl

theorem dd1_saturate_b53 : AllD (ib i1_saturate) [(53, .iinc 5 1, 3), (56, .goto (-34), 3)] := allD_of (by decide +kernel)
def f1_saturate_b53 (K22 : MM → Nat → Nat → Int32 → Int32 → Int32 → Int32 → Option MM) (M : MM) (a0 : Nat) (a1 : Nat) (a2 : Int32) (a3 : Int32) (a4 : Int32) (a5 : Int32) : Option MM :=
  K22 M a0 a1 a2 a3 a4 (a5 + (1 : Int32))
set_option maxRecDepth 4000 in
theorem T1_saturate_b53 {K22 : MM → Nat → Nat → Int32 → Int32 → Int32 → Int32 → Option MM} (hK22 : ∀ (M : MM) (a0 : Nat) (a1 : Nat) (a2 : Int32) (a3 : Int32) (a4 : Int32) (a5 : Int32), X Lv i1_saturate 22 [(0, vr a0), (1, vr a1), (2, vi a2), (3, vi a3), (4, vi a4), (5, vi a5)] [] M (K22 M a0 a1 a2 a3 a4 a5)) : ∀ (M : MM) (a0 : Nat) (a1 : Nat) (a2 : Int32) (a3 : Int32) (a4 : Int32) (a5 : Int32), X Lv i1_saturate 53 [(0, vr a0), (1, vr a1), (2, vi a2), (3, vi a3), (4, vi a4), (5, vi a5)] [] M (f1_saturate_b53 K22 M a0 a1 a2 a3 a4 a5) := by
  obtain ⟨d53, d56, -⟩ := dd1_saturate_b53
  intro M a0 a1 a2 a3 a4 a5
  unfold f1_saturate_b53
  refine X_inc (lv' := [(5, vi (a5 + (1 : Int32))), (0, vr a0), (1, vr a1), (2, vi a2), (3, vi a3), (4, vi a4)]) 5 d53 k_i_1 rfl (by decide) rfl ?_
  refine X_goto (t := 22) d56 rfl ?_
  refine X_sub [1, 2, 3, 4, 5, 0] rfl ?_
  exact hK22 M a0 a1 a2 a3 a4 (a5 + (1 : Int32))

theorem dd1_saturate_b22 : AllD (ib i1_saturate) [(22, .iload 5, 2), (24, .aload_n 1, 1), (25, .getfield 68, 3), (28, .if_icmp .ge 31, 3), (31, .aload_n 1, 1), (32, .iload 5, 2), (34, .iload_n 2, 1), (35, .invokevirtual 71, 3), (38, .ifCond .eq 15, 3), (41, .aload_n 0, 1), (42, .aload_n 1, 1), (43, .iload 5, 2), (45, .invokevirtual 75, 3), (48, .ifCond .eq 5, 3), (51, .iconst 1, 1), (52, .istore_n 3, 1), (59, .iinc 4 1, 3), (62, .goto (-57), 3)] := allD_of (by decide +kernel)
def f1_saturate_b22_body (K5 : MM → Nat → Nat → Int32 → Int32 → Int32 → Option MM) (rc : MM → Nat → Nat → Int32 → Int32 → Int32 → Int32 → Option MM) (M : MM) (a0 : Nat) (a1 : Nat) (a2 : Int32) (a3 : Int32) (a4 : Int32) (a5 : Int32) : Option MM :=
  aO M a1 7 <|
  if (mI M a1 6) ≤ a5 then
    K5 M a0 a1 a2 a3 (a4 + (1 : Int32))
  else
    aO M a1 7 <|
    cI (f7_isIn M a1 a5 a2) fun r35 M35 =>
    if r35 = 0 then
      (f1_saturate_b53 rc) M35 a0 a1 a2 a3 a4 a5
    else
      aO M35 a0 1 <|
      cI (f1_lowerBy M35 a0 a1 a5) fun r45 M45 =>
      if r45 = 0 then
        (f1_saturate_b53 rc) M45 a0 a1 a2 a3 a4 a5
      else
        (f1_saturate_b53 rc) M45 a0 a1 a2 (1 : Int32) a4 a5
def f1_saturate_b22 (K5 : MM → Nat → Nat → Int32 → Int32 → Int32 → Option MM) : MM → Nat → Nat → Int32 → Int32 → Int32 → Int32 → Option MM := LP7 (f1_saturate_b22_body K5) FU
set_option maxRecDepth 4000 in
theorem T1_saturate_b22 {K5 : MM → Nat → Nat → Int32 → Int32 → Int32 → Option MM} (hK5 : ∀ (M : MM) (a0 : Nat) (a1 : Nat) (a2 : Int32) (a3 : Int32) (a4 : Int32), X Lv i1_saturate 5 [(0, vr a0), (1, vr a1), (2, vi a2), (3, vi a3), (4, vi a4)] [] M (K5 M a0 a1 a2 a3 a4)) : ∀ (M : MM) (a0 : Nat) (a1 : Nat) (a2 : Int32) (a3 : Int32) (a4 : Int32) (a5 : Int32), X Lv i1_saturate 22 [(0, vr a0), (1, vr a1), (2, vi a2), (3, vi a3), (4, vi a4), (5, vi a5)] [] M (f1_saturate_b22 K5 M a0 a1 a2 a3 a4 a5) := by
  obtain ⟨d22, d24, d25, d28, d31, d32, d34, d35, d38, d41, d42, d43, d45, d48, d51, d52, d59, d62, -⟩ := dd1_saturate_b22
  refine LP7_i (P := fun M a0 a1 a2 a3 a4 a5 o => X Lv i1_saturate 22 [(0, vr a0), (1, vr a1), (2, vi a2), (3, vi a3), (4, vi a4), (5, vi a5)] [] M o) (fun _ _ _ _ _ _ _ => X_none) (fun rc ih M a0 a1 a2 a3 a4 a5 => ?_) FU
  unfold f1_saturate_b22_body
  refine X_iload 5 d22 rfl ?_
  refine X_aloadn 1 d24 rfl ?_
  refine X_getI d25 fg_x1_68 ?_
  refine X_icmp_ge (t := 59) d28 rfl (fun h28 => ?_) (fun h28 => ?_)
  · refine X_inc (lv' := [(4, vi (a4 + (1 : Int32))), (0, vr a0), (1, vr a1), (2, vi a2), (3, vi a3), (5, vi a5)]) 4 d59 k_i_1 rfl (by decide) rfl ?_
    refine X_goto (t := 5) d62 rfl ?_
    refine X_sub [1, 2, 3, 4, 0] rfl ?_
    exact hK5 M a0 a1 a2 a3 (a4 + (1 : Int32))
  · refine X_aloadn 1 d31 rfl ?_
    refine X_iload 5 d32 rfl ?_
    refine X_iloadn 2 d34 rfl ?_
    refine X_cVi (as := [vi a5, vi a2]) d35 cv_x1_71 ⟨by decide, by decide⟩ rfl (Nat.le_of_ble_eq_true rfl) (T7_isIn M a1 a5 a2) (fun r35 M35 _ => ?_)
    refine X_if_eq (t := 53) d38 rfl (fun h38 => ?_) (fun h38 => ?_)
    · exact (T1_saturate_b53 ih) M35 a0 a1 a2 a3 a4 a5
    · refine X_aloadn 0 d41 rfl ?_
      refine X_aloadn 1 d42 rfl ?_
      refine X_iload 5 d43 rfl ?_
      refine X_cVi (as := [vr a1, vi a5]) d45 cv_x1_75 ⟨by decide, by decide⟩ rfl (Nat.le_of_ble_eq_true rfl) (T1_lowerBy M35 a0 a1 a5) (fun r45 M45 _ => ?_)
      refine X_if_eq (t := 53) d48 rfl (fun h48 => ?_) (fun h48 => ?_)
      · exact (T1_saturate_b53 ih) M45 a0 a1 a2 a3 a4 a5
      · refine X_iconst k_i_1 d51 ?_
        refine X_istoren (lv' := [(3, vi (1 : Int32)), (0, vr a0), (1, vr a1), (2, vi a2), (4, vi a4), (5, vi a5)]) d52 (by decide) rfl ?_
        refine X_sub [1, 2, 3, 0, 4, 5] rfl ?_
        exact (T1_saturate_b53 ih) M45 a0 a1 a2 (1 : Int32) a4 a5

theorem dd1_saturate_b5 : AllD (ib i1_saturate) [(5, .iload_n 3, 1), (6, .ifCond .eq 59, 3), (9, .iload 4, 2), (11, .sipush 451, 3), (14, .if_icmp .ge 51, 3), (17, .iconst 0, 1), (18, .istore_n 3, 1), (19, .iconst 0, 1), (20, .istore 5, 2), (65, .return_, 1)] := allD_of (by decide +kernel)
def f1_saturate_b5_body (rc : MM → Nat → Nat → Int32 → Int32 → Int32 → Option MM) (M : MM) (a0 : Nat) (a1 : Nat) (a2 : Int32) (a3 : Int32) (a4 : Int32) : Option MM :=
  if a3 = 0 then
    some M
  else
    if (451 : Int32) ≤ a4 then
      some M
    else
      (f1_saturate_b22 rc) M a0 a1 a2 (0 : Int32) a4 (0 : Int32)
def f1_saturate_b5 : MM → Nat → Nat → Int32 → Int32 → Int32 → Option MM := LP6 (f1_saturate_b5_body) FU
set_option maxRecDepth 4000 in
theorem T1_saturate_b5 : ∀ (M : MM) (a0 : Nat) (a1 : Nat) (a2 : Int32) (a3 : Int32) (a4 : Int32), X Lv i1_saturate 5 [(0, vr a0), (1, vr a1), (2, vi a2), (3, vi a3), (4, vi a4)] [] M (f1_saturate_b5 M a0 a1 a2 a3 a4) := by
  obtain ⟨d5, d6, d9, d11, d14, d17, d18, d19, d20, d65, -⟩ := dd1_saturate_b5
  refine LP6_i (P := fun M a0 a1 a2 a3 a4 o => X Lv i1_saturate 5 [(0, vr a0), (1, vr a1), (2, vi a2), (3, vi a3), (4, vi a4)] [] M o) (fun _ _ _ _ _ _ => X_none) (fun rc ih M a0 a1 a2 a3 a4 => ?_) FU
  unfold f1_saturate_b5_body
  refine X_iloadn 3 d5 rfl ?_
  refine X_if_eq (t := 65) d6 rfl (fun h6 => ?_) (fun h6 => ?_)
  · exact X_vreturn d65 rfl rfl
  · refine X_iload 4 d9 rfl ?_
    refine X_sipush k_s_451 d11 ?_
    refine X_icmp_ge (t := 65) d14 rfl (fun h14 => ?_) (fun h14 => ?_)
    · exact X_vreturn d65 rfl rfl
    · refine X_iconst k_i_0 d17 ?_
      refine X_istoren (lv' := [(3, vi (0 : Int32)), (0, vr a0), (1, vr a1), (2, vi a2), (4, vi a4)]) d18 (by decide) rfl ?_
      refine X_iconst k_i_0 d19 ?_
      refine X_istore (lv' := [(5, vi (0 : Int32)), (3, vi (0 : Int32)), (0, vr a0), (1, vr a1), (2, vi a2), (4, vi a4)]) d20 (by decide) rfl ?_
      refine X_sub [2, 3, 4, 1, 5, 0] rfl ?_
      exact (T1_saturate_b22 ih) M a0 a1 a2 (0 : Int32) a4 (0 : Int32)

theorem dd1_saturate : AllD (ib i1_saturate) [(0, .iconst 1, 1), (1, .istore_n 3, 1), (2, .iconst 0, 1), (3, .istore 4, 2)] := allD_of (by decide +kernel)
def f1_saturate (M : MM) (a0 : Nat) (a1 : Nat) (a2 : Int32) : Option MM :=
  f1_saturate_b5 M a0 a1 a2 (1 : Int32) (0 : Int32)
set_option maxRecDepth 4000 in
theorem T1_saturate (M : MM) (a0 : Nat) (a1 : Nat) (a2 : Int32) : ∀ q, f1_saturate M a0 a1 a2 = some q → Run i1_saturate [vr a0, vr a1, vi a2] M (Lv q) := by
  obtain ⟨d0, d1, d2, d3, -⟩ := dd1_saturate
  refine Run_of_X (by decide) (Nat.le_of_ble_eq_true rfl) ?_
  show X Lv i1_saturate 0 [(0, vr a0), (1, vr a1), (2, vi a2)] [] M _
  unfold f1_saturate
  refine X_iconst k_i_1 d0 ?_
  refine X_istoren (lv' := [(3, vi (1 : Int32)), (0, vr a0), (1, vr a1), (2, vi a2)]) d1 (by decide) rfl ?_
  refine X_iconst k_i_0 d2 ?_
  refine X_istore (lv' := [(4, vi (0 : Int32)), (3, vi (1 : Int32)), (0, vr a0), (1, vr a1), (2, vi a2)]) d3 (by decide) rfl ?_
  refine X_sub [2, 3, 4, 1, 0] rfl ?_
  exact T1_saturate_b5 M a0 a1 a2 (1 : Int32) (0 : Int32)

theorem dd4_fill : AllD (ib i4_fill) [(0, .aload_n 0, 1), (1, .getfield 13, 3), (4, .lload_n 1, 1), (5, .invokestatic 19, 3), (8, .return_, 1)] := allD_of (by decide +kernel)
def f4_fill (M : MM) (a0 : Nat) (a1 : Int64) : Option MM :=
  aO M a0 4 <|
  cV (fJ_fillL M (mR M a0 0) a1) fun M5 =>
  some M5
set_option maxRecDepth 4000 in
theorem T4_fill (M : MM) (a0 : Nat) (a1 : Int64) : ∀ q, f4_fill M a0 a1 = some q → Run i4_fill [vr a0, vl a1] M (Lv q) := by
  obtain ⟨d0, d1, d4, d5, d8, -⟩ := dd4_fill
  refine Run_of_X (by decide) (Nat.le_of_ble_eq_true rfl) ?_
  show X Lv i4_fill 0 [(0, vr a0), (1, vl a1)] [] M _
  unfold f4_fill
  refine X_aloadn 0 d0 rfl ?_
  refine X_getR d1 fg_x4_13 ?_
  refine X_lloadn 1 d4 rfl ?_
  refine X_cSv (as := [vr (mR M a0 0), vl a1]) d5 cs_x4_19 ⟨by decide, by decide⟩ rfl (Nat.le_of_ble_eq_true rfl) (TJ_fillL M (mR M a0 0) a1) (fun M5 _ => ?_)
  exact X_vreturn d8 rfl rfl

theorem dd1_start_b34 : AllD (ib i1_start) [(34, .iload_n 2, 1), (35, .bipush 15, 2), (37, .if_icmp .ge 20, 3), (40, .aload_n 0, 1), (41, .getfield 20, 3), (44, .iload_n 2, 1), (45, .ldc2_w 23, 3), (48, .invokevirtual 33, 3), (51, .iinc 2 1, 3), (54, .goto (-20), 3), (57, .aload_n 0, 1), (58, .iconst 5, 1), (59, .invokevirtual 37, 3), (62, .aload_n 0, 1), (63, .bipush 6, 2), (65, .invokevirtual 37, 3), (68, .return_, 1)] := allD_of (by decide +kernel)
def f1_start_b34_body (rc : MM → Nat → Int32 → Option MM) (M : MM) (a0 : Nat) (a2 : Int32) : Option MM :=
  if (15 : Int32) ≤ a2 then
    aO M a0 1 <|
    cV (f1_aimAtNothing M a0 (5 : Int32)) fun M59 =>
    aO M59 a0 1 <|
    cV (f1_aimAtNothing M59 a0 (6 : Int32)) fun M65 =>
    some M65
  else
    aO M a0 1 <|
    aO M (mR M a0 1) 4 <|
    cV (f4_set M (mR M a0 1) a2 (1000000000000001 : Int64)) fun M48 =>
    rc M48 a0 (a2 + (1 : Int32))
def f1_start_b34 : MM → Nat → Int32 → Option MM := LP3 (f1_start_b34_body) FU
set_option maxRecDepth 4000 in
theorem T1_start_b34 : ∀ (M : MM) (a0 : Nat) (a2 : Int32), X Lv i1_start 34 [(0, vr a0), (2, vi a2)] [] M (f1_start_b34 M a0 a2) := by
  obtain ⟨d34, d35, d37, d40, d41, d44, d45, d48, d51, d54, d57, d58, d59, d62, d63, d65, d68, -⟩ := dd1_start_b34
  refine LP3_i (P := fun M a0 a2 o => X Lv i1_start 34 [(0, vr a0), (2, vi a2)] [] M o) (fun _ _ _ => X_none) (fun rc ih M a0 a2 => ?_) FU
  unfold f1_start_b34_body
  refine X_iloadn 1 d34 rfl ?_
  refine X_bipush k_b_15 d35 ?_
  refine X_icmp_ge (t := 57) d37 rfl (fun h37 => ?_) (fun h37 => ?_)
  · refine X_aloadn 0 d57 rfl ?_
    refine X_iconst k_i_5 d58 ?_
    refine X_cVv (as := [vi (5 : Int32)]) d59 cv_x1_37 ⟨by decide, by decide⟩ rfl (Nat.le_of_ble_eq_true rfl) (T1_aimAtNothing M a0 (5 : Int32)) (fun M59 _ => ?_)
    refine X_aloadn 0 d62 rfl ?_
    refine X_bipush k_b_6 d63 ?_
    refine X_cVv (as := [vi (6 : Int32)]) d65 cv_x1_37 ⟨by decide, by decide⟩ rfl (Nat.le_of_ble_eq_true rfl) (T1_aimAtNothing M59 a0 (6 : Int32)) (fun M65 _ => ?_)
    exact X_vreturn d68 rfl rfl
  · refine X_aloadn 0 d40 rfl ?_
    refine X_getR d41 fg_x1_20 ?_
    refine X_iloadn 1 d44 rfl ?_
    refine X_ldc2 kc_x1_23 d45 ?_
    refine X_cVv (as := [vi a2, vl (1000000000000001 : Int64)]) d48 cv_x1_33 ⟨by decide, by decide⟩ rfl (Nat.le_of_ble_eq_true rfl) (T4_set M (mR M a0 1) a2 (1000000000000001 : Int64)) (fun M48 _ => ?_)
    refine X_inc (lv' := [(2, vi (a2 + (1 : Int32))), (0, vr a0)]) 1 d51 k_i_1 rfl (by decide) rfl ?_
    refine X_goto (t := 34) d54 rfl ?_
    refine X_sub [1, 0] rfl ?_
    exact ih M48 a0 (a2 + (1 : Int32))

theorem dd1_start_b12 : AllD (ib i1_start) [(12, .iload_n 2, 1), (13, .iload_n 1, 1), (14, .if_icmp .ge 18, 3), (17, .aload_n 0, 1), (18, .iconst 5, 1), (19, .iload_n 2, 1), (20, .iconst 5, 1), (21, .lconst 0, 1), (22, .invokevirtual 29, 3), (25, .pop, 1), (26, .iinc 2 1, 3), (29, .goto (-17), 3), (32, .iconst 0, 1), (33, .istore_n 2, 1)] := allD_of (by decide +kernel)
def f1_start_b12_body (rc : MM → Nat → Int32 → Int32 → Option MM) (M : MM) (a0 : Nat) (a1 : Int32) (a2 : Int32) : Option MM :=
  if a1 ≤ a2 then
    f1_start_b34 M a0 (0 : Int32)
  else
    aO M a0 1 <|
    cI (f1_lower M a0 (5 : Int32) a2 (5 : Int32) (0 : Int64)) fun r22 M22 =>
    rc M22 a0 a1 (a2 + (1 : Int32))
def f1_start_b12 : MM → Nat → Int32 → Int32 → Option MM := LP4 (f1_start_b12_body) FU
set_option maxRecDepth 4000 in
theorem T1_start_b12 : ∀ (M : MM) (a0 : Nat) (a1 : Int32) (a2 : Int32), X Lv i1_start 12 [(0, vr a0), (1, vi a1), (2, vi a2)] [] M (f1_start_b12 M a0 a1 a2) := by
  obtain ⟨d12, d13, d14, d17, d18, d19, d20, d21, d22, d25, d26, d29, d32, d33, -⟩ := dd1_start_b12
  refine LP4_i (P := fun M a0 a1 a2 o => X Lv i1_start 12 [(0, vr a0), (1, vi a1), (2, vi a2)] [] M o) (fun _ _ _ _ => X_none) (fun rc ih M a0 a1 a2 => ?_) FU
  unfold f1_start_b12_body
  refine X_iloadn 2 d12 rfl ?_
  refine X_iloadn 1 d13 rfl ?_
  refine X_icmp_ge (t := 32) d14 rfl (fun h14 => ?_) (fun h14 => ?_)
  · refine X_iconst k_i_0 d32 ?_
    refine X_istoren (lv' := [(2, vi (0 : Int32)), (0, vr a0), (1, vi a1)]) d33 (by decide) rfl ?_
    refine X_sub [1, 0] rfl ?_
    exact T1_start_b34 M a0 (0 : Int32)
  · refine X_aloadn 0 d17 rfl ?_
    refine X_iconst k_i_5 d18 ?_
    refine X_iloadn 2 d19 rfl ?_
    refine X_iconst k_i_5 d20 ?_
    refine X_lconst k_l_0 d21 ?_
    refine X_cVi (as := [vi (5 : Int32), vi a2, vi (5 : Int32), vl (0 : Int64)]) d22 cv_x1_29 ⟨by decide, by decide⟩ rfl (Nat.le_of_ble_eq_true rfl) (T1_lower M a0 (5 : Int32) a2 (5 : Int32) (0 : Int64)) (fun r22 M22 _ => ?_)
    refine X_popi d25 ?_
    refine X_inc (lv' := [(2, vi (a2 + (1 : Int32))), (0, vr a0), (1, vi a1)]) 2 d26 k_i_1 rfl (by decide) rfl ?_
    refine X_goto (t := 12) d29 rfl ?_
    refine X_sub [1, 2, 0] rfl ?_
    exact ih M22 a0 a1 (a2 + (1 : Int32))

theorem dd1_start : AllD (ib i1_start) [(0, .aload_n 0, 1), (1, .getfield 16, 3), (4, .ldc2_w 23, 3), (7, .invokevirtual 25, 3), (10, .iconst 0, 1), (11, .istore_n 2, 1)] := allD_of (by decide +kernel)
def f1_start (M : MM) (a0 : Nat) (a1 : Int32) : Option MM :=
  aO M a0 1 <|
  aO M (mR M a0 0) 4 <|
  cV (f4_fill M (mR M a0 0) (1000000000000001 : Int64)) fun M7 =>
  f1_start_b12 M7 a0 a1 (0 : Int32)
set_option maxRecDepth 4000 in
theorem T1_start (M : MM) (a0 : Nat) (a1 : Int32) : ∀ q, f1_start M a0 a1 = some q → Run i1_start [vr a0, vi a1] M (Lv q) := by
  obtain ⟨d0, d1, d4, d7, d10, d11, -⟩ := dd1_start
  refine Run_of_X (by decide) (Nat.le_of_ble_eq_true rfl) ?_
  show X Lv i1_start 0 [(0, vr a0), (1, vi a1)] [] M _
  unfold f1_start
  refine X_aloadn 0 d0 rfl ?_
  refine X_getR d1 fg_x1_16 ?_
  refine X_ldc2 kc_x1_23 d4 ?_
  refine X_cVv (as := [vl (1000000000000001 : Int64)]) d7 cv_x1_25 ⟨by decide, by decide⟩ rfl (Nat.le_of_ble_eq_true rfl) (T4_fill M (mR M a0 0) (1000000000000001 : Int64)) (fun M7 _ => ?_)
  refine X_iconst k_i_0 d10 ?_
  refine X_istoren (lv' := [(2, vi (0 : Int32)), (0, vr a0), (1, vi a1)]) d11 (by decide) rfl ?_
  refine X_sub [1, 2, 0] rfl ?_
  exact T1_start_b12 M7 a0 a1 (0 : Int32)

theorem dd1_startForGoals_b10 : AllD (ib i1_startForGoals) [(10, .iload_n 2, 1), (11, .aload_n 1, 1), (12, .getfield 49, 3), (15, .if_icmp .ge 15, 3), (18, .aload_n 0, 1), (19, .aload_n 1, 1), (20, .iload_n 2, 1), (21, .invokevirtual 52, 3), (24, .iinc 2 1, 3), (27, .goto (-17), 3), (30, .return_, 1)] := allD_of (by decide +kernel)
def f1_startForGoals_b10_body (rc : MM → Nat → Nat → Int32 → Option MM) (M : MM) (a0 : Nat) (a1 : Nat) (a2 : Int32) : Option MM :=
  aO M a1 7 <|
  if (mI M a1 7) ≤ a2 then
    some M
  else
    aO M a0 1 <|
    cV (f1_aimAtGoal M a0 a1 a2) fun M21 =>
    rc M21 a0 a1 (a2 + (1 : Int32))
def f1_startForGoals_b10 : MM → Nat → Nat → Int32 → Option MM := LP4 (f1_startForGoals_b10_body) FU
set_option maxRecDepth 4000 in
theorem T1_startForGoals_b10 : ∀ (M : MM) (a0 : Nat) (a1 : Nat) (a2 : Int32), X Lv i1_startForGoals 10 [(0, vr a0), (1, vr a1), (2, vi a2)] [] M (f1_startForGoals_b10 M a0 a1 a2) := by
  obtain ⟨d10, d11, d12, d15, d18, d19, d20, d21, d24, d27, d30, -⟩ := dd1_startForGoals_b10
  refine LP4_i (P := fun M a0 a1 a2 o => X Lv i1_startForGoals 10 [(0, vr a0), (1, vr a1), (2, vi a2)] [] M o) (fun _ _ _ _ => X_none) (fun rc ih M a0 a1 a2 => ?_) FU
  unfold f1_startForGoals_b10_body
  refine X_iloadn 2 d10 rfl ?_
  refine X_aloadn 1 d11 rfl ?_
  refine X_getI d12 fg_x1_49 ?_
  refine X_icmp_ge (t := 30) d15 rfl (fun h15 => ?_) (fun h15 => ?_)
  · exact X_vreturn d30 rfl rfl
  · refine X_aloadn 0 d18 rfl ?_
    refine X_aloadn 1 d19 rfl ?_
    refine X_iloadn 2 d20 rfl ?_
    refine X_cVv (as := [vr a1, vi a2]) d21 cv_x1_52 ⟨by decide, by decide⟩ rfl (Nat.le_of_ble_eq_true rfl) (T1_aimAtGoal M a0 a1 a2) (fun M21 _ => ?_)
    refine X_inc (lv' := [(2, vi (a2 + (1 : Int32))), (0, vr a0), (1, vr a1)]) 2 d24 k_i_1 rfl (by decide) rfl ?_
    refine X_goto (t := 10) d27 rfl ?_
    refine X_sub [1, 2, 0] rfl ?_
    exact ih M21 a0 a1 (a2 + (1 : Int32))

theorem dd1_startForGoals : AllD (ib i1_startForGoals) [(0, .aload_n 0, 1), (1, .aload_n 1, 1), (2, .getfield 40, 3), (5, .invokevirtual 46, 3), (8, .iconst 0, 1), (9, .istore_n 2, 1)] := allD_of (by decide +kernel)
def f1_startForGoals (M : MM) (a0 : Nat) (a1 : Nat) : Option MM :=
  aO M a1 7 <|
  aO M a0 1 <|
  cV (f1_start M a0 (mI M a1 5)) fun M5 =>
  f1_startForGoals_b10 M5 a0 a1 (0 : Int32)
set_option maxRecDepth 4000 in
theorem T1_startForGoals (M : MM) (a0 : Nat) (a1 : Nat) : ∀ q, f1_startForGoals M a0 a1 = some q → Run i1_startForGoals [vr a0, vr a1] M (Lv q) := by
  obtain ⟨d0, d1, d2, d5, d8, d9, -⟩ := dd1_startForGoals
  refine Run_of_X (by decide) (Nat.le_of_ble_eq_true rfl) ?_
  show X Lv i1_startForGoals 0 [(0, vr a0), (1, vr a1)] [] M _
  unfold f1_startForGoals
  refine X_aloadn 0 d0 rfl ?_
  refine X_aloadn 1 d1 rfl ?_
  refine X_getI d2 fg_x1_40 ?_
  refine X_cVv (as := [vi (mI M a1 5)]) d5 cv_x1_46 ⟨by decide, by decide⟩ rfl (Nat.le_of_ble_eq_true rfl) (T1_start M a0 (mI M a1 5)) (fun M5 _ => ?_)
  refine X_iconst k_i_0 d8 ?_
  refine X_istoren (lv' := [(2, vi (0 : Int32)), (0, vr a0), (1, vr a1)]) d9 (by decide) rfl ?_
  refine X_sub [1, 2, 0] rfl ?_
  exact T1_startForGoals_b10 M5 a0 a1 (0 : Int32)

theorem dd2_canPop : AllD (ib i2_canPop) [(0, .aload_n 0, 1), (1, .getfield 47, 3), (4, .iload_n 1, 1), (5, .iload_n 2, 1), (6, .iload_n 3, 1), (7, .invokevirtual 60, 3), (10, .ldc2_w 66, 3), (13, .lcmp, 1), (14, .ifCond .ge 7, 3), (17, .iconst 1, 1), (18, .goto 4, 3), (21, .iconst 0, 1), (22, .ireturn, 1)] := allD_of (by decide +kernel)
def f2_canPop (M : MM) (a0 : Nat) (a1 : Int32) (a2 : Int32) (a3 : Int32) : Option (Int32 × MM) :=
  aO M a0 2 <|
  aO M (mR M a0 6) 1 <|
  cJ (f1_edge M (mR M a0 6) a1 a2 a3) fun r7 M7 =>
  if (1000000000000001 : Int64) ≤ r7 then
    some ((0 : Int32), M7)
  else
    some ((1 : Int32), M7)
set_option maxRecDepth 4000 in
theorem T2_canPop (M : MM) (a0 : Nat) (a1 : Int32) (a2 : Int32) (a3 : Int32) : ∀ q, f2_canPop M a0 a1 a2 a3 = some q → Run i2_canPop [vr a0, vi a1, vi a2, vi a3] M (Li q) := by
  obtain ⟨d0, d1, d4, d5, d6, d7, d10, d13, d14, d17, d18, d21, d22, -⟩ := dd2_canPop
  refine Run_of_X (by decide) (Nat.le_of_ble_eq_true rfl) ?_
  show X Li i2_canPop 0 [(0, vr a0), (1, vi a1), (2, vi a2), (3, vi a3)] [] M _
  unfold f2_canPop
  refine X_aloadn 0 d0 rfl ?_
  refine X_getR d1 fg_x2_47 ?_
  refine X_iloadn 1 d4 rfl ?_
  refine X_iloadn 2 d5 rfl ?_
  refine X_iloadn 3 d6 rfl ?_
  refine X_cVl (as := [vi a1, vi a2, vi a3]) d7 cv_x2_60 ⟨by decide, by decide⟩ rfl (Nat.le_of_ble_eq_true rfl) (T1_edge M (mR M a0 6) a1 a2 a3) (fun r7 M7 _ => ?_)
  refine X_ldc2 kc_x2_66 d10 ?_
  refine X_lif_ge (t := 21) d13 d14 rfl (fun h13 => ?_) (fun h13 => ?_)
  · refine X_iconst k_i_0 d21 ?_
    exact X_zreturnc d22 rfl (by decide) rfl
  · refine X_iconst k_i_1 d17 ?_
    refine X_goto (t := 22) d18 rfl ?_
    exact X_zreturnc d22 rfl (by decide) rfl

theorem dd3_fill : AllD (ib i3_fill) [(0, .aload_n 0, 1), (1, .getfield 9, 3), (4, .iload_n 1, 1), (5, .invokestatic 15, 3), (8, .return_, 1)] := allD_of (by decide +kernel)
def f3_fill (M : MM) (a0 : Nat) (a1 : Int32) : Option MM :=
  aO M a0 3 <|
  cV (fJ_fillI M (mR M a0 0) a1) fun M5 =>
  some M5
set_option maxRecDepth 4000 in
theorem T3_fill (M : MM) (a0 : Nat) (a1 : Int32) : ∀ q, f3_fill M a0 a1 = some q → Run i3_fill [vr a0, vi a1] M (Lv q) := by
  obtain ⟨d0, d1, d4, d5, d8, -⟩ := dd3_fill
  refine Run_of_X (by decide) (Nat.le_of_ble_eq_true rfl) ?_
  show X Lv i3_fill 0 [(0, vr a0), (1, vi a1)] [] M _
  unfold f3_fill
  refine X_aloadn 0 d0 rfl ?_
  refine X_getR d1 fg_x3_9 ?_
  refine X_iloadn 1 d4 rfl ?_
  refine X_cSv (as := [vr (mR M a0 0), vi a1]) d5 cs_x3_15 ⟨by decide, by decide⟩ rfl (Nat.le_of_ble_eq_true rfl) (TJ_fillI M (mR M a0 0) a1) (fun M5 _ => ?_)
  exact X_vreturn d8 rfl rfl

theorem dd2_headOf : AllD (ib i2_headOf) [(0, .iload_n 0, 1), (1, .bipush 6, 2), (3, .imul, 1), (4, .iload_n 1, 1), (5, .iadd, 1), (6, .ireturn, 1)] := allD_of (by decide +kernel)
def f2_headOf (M : MM) (a0 : Int32) (a1 : Int32) : Option (Int32 × MM) :=
  some ((a0 * (6 : Int32)) + a1, M)
set_option maxRecDepth 4000 in
theorem T2_headOf (M : MM) (a0 : Int32) (a1 : Int32) : ∀ q, f2_headOf M a0 a1 = some q → Run i2_headOf [vi a0, vi a1] M (Li q) := by
  obtain ⟨d0, d1, d3, d4, d5, d6, -⟩ := dd2_headOf
  refine Run_of_X (by decide) (Nat.le_of_ble_eq_true rfl) ?_
  show X Li i2_headOf 0 [(0, vi a0), (1, vi a1)] [] M _
  unfold f2_headOf
  refine X_iloadn 0 d0 rfl ?_
  refine X_bipush k_b_6 d1 ?_
  refine X_imul d3 ?_
  refine X_iloadn 1 d4 rfl ?_
  refine X_iadd d5 ?_
  exact X_ireturn d6 rfl rfl

theorem dd2_headOfRule : AllD (ib i2_headOfRule) [(0, .aload_n 0, 1), (1, .getfield 43, 3), (4, .iload_n 1, 1), (5, .iconst 0, 1), (6, .invokevirtual 51, 3), (9, .aload_n 0, 1), (10, .getfield 43, 3), (13, .iload_n 1, 1), (14, .iconst 1, 1), (15, .invokevirtual 51, 3), (18, .invokestatic 57, 3), (21, .ireturn, 1)] := allD_of (by decide +kernel)
def f2_headOfRule (M : MM) (a0 : Nat) (a1 : Int32) : Option (Int32 × MM) :=
  aO M a0 2 <|
  aO M (mR M a0 7) 7 <|
  cI (f7_ofRule M (mR M a0 7) a1 (0 : Int32)) fun r6 M6 =>
  aO M6 a0 2 <|
  aO M6 (mR M6 a0 7) 7 <|
  cI (f7_ofRule M6 (mR M6 a0 7) a1 (1 : Int32)) fun r15 M15 =>
  cI (f2_headOf M15 r6 r15) fun r18 M18 =>
  some (r18, M18)
set_option maxRecDepth 4000 in
theorem T2_headOfRule (M : MM) (a0 : Nat) (a1 : Int32) : ∀ q, f2_headOfRule M a0 a1 = some q → Run i2_headOfRule [vr a0, vi a1] M (Li q) := by
  obtain ⟨d0, d1, d4, d5, d6, d9, d10, d13, d14, d15, d18, d21, -⟩ := dd2_headOfRule
  refine Run_of_X (by decide) (Nat.le_of_ble_eq_true rfl) ?_
  show X Li i2_headOfRule 0 [(0, vr a0), (1, vi a1)] [] M _
  unfold f2_headOfRule
  refine X_aloadn 0 d0 rfl ?_
  refine X_getR d1 fg_x2_43 ?_
  refine X_iloadn 1 d4 rfl ?_
  refine X_iconst k_i_0 d5 ?_
  refine X_cVi (as := [vi a1, vi (0 : Int32)]) d6 cv_x2_51 ⟨by decide, by decide⟩ rfl (Nat.le_of_ble_eq_true rfl) (T7_ofRule M (mR M a0 7) a1 (0 : Int32)) (fun r6 M6 _ => ?_)
  refine X_aloadn 0 d9 rfl ?_
  refine X_getR d10 fg_x2_43 ?_
  refine X_iloadn 1 d13 rfl ?_
  refine X_iconst k_i_1 d14 ?_
  refine X_cVi (as := [vi a1, vi (1 : Int32)]) d15 cv_x2_51 ⟨by decide, by decide⟩ rfl (Nat.le_of_ble_eq_true rfl) (T7_ofRule M6 (mR M6 a0 7) a1 (1 : Int32)) (fun r15 M15 _ => ?_)
  refine X_cSi (as := [vi r6, vi r15]) d18 cs_x2_57 ⟨by decide, by decide⟩ rfl (Nat.le_of_ble_eq_true rfl) (T2_headOf M15 r6 r15) (fun r18 M18 _ => ?_)
  exact X_ireturn d21 rfl rfl

theorem dd2_headBehind : AllD (ib i2_headBehind) [(0, .aload_n 0, 1), (1, .getfield 43, 3), (4, .iload_n 1, 1), (5, .iconst 4, 1), (6, .invokevirtual 51, 3), (9, .istore_n 3, 1), (10, .aload_n 0, 1), (11, .getfield 43, 3), (14, .iload_n 1, 1), (15, .iconst 5, 1), (16, .invokevirtual 51, 3), (19, .istore 4, 2), (21, .aload_n 0, 1), (22, .getfield 43, 3), (25, .iload_n 1, 1), (26, .iconst 2, 1), (27, .invokevirtual 51, 3), (30, .istore 5, 2), (32, .iload_n 2, 1), (33, .iconst (-1), 1), (34, .if_icmp .ne 19, 3), (37, .iload_n 3, 1), (38, .iconst (-1), 1), (39, .if_icmp .ne 7, 3), (42, .iconst (-1), 1), (43, .goto 9, 3), (46, .iload 5, 2), (48, .iload_n 3, 1), (49, .invokestatic 57, 3), (52, .ireturn, 1), (53, .iload 4, 2), (55, .iconst (-1), 1), (56, .if_icmp .eq 23, 3), (59, .aload_n 0, 1), (60, .iload 5, 2), (62, .iload_n 3, 1), (63, .iload_n 2, 1), (64, .invokevirtual 68, 3), (67, .ifCond .eq 12, 3), (70, .iload_n 2, 1), (71, .iload 4, 2), (73, .invokestatic 57, 3), (76, .goto 4, 3), (79, .iconst (-1), 1), (80, .ireturn, 1)] := allD_of (by decide +kernel)
def f2_headBehind (M : MM) (a0 : Nat) (a1 : Int32) (a2 : Int32) : Option (Int32 × MM) :=
  aO M a0 2 <|
  aO M (mR M a0 7) 7 <|
  cI (f7_ofRule M (mR M a0 7) a1 (4 : Int32)) fun r6 M6 =>
  aO M6 a0 2 <|
  aO M6 (mR M6 a0 7) 7 <|
  cI (f7_ofRule M6 (mR M6 a0 7) a1 (5 : Int32)) fun r16 M16 =>
  aO M16 a0 2 <|
  aO M16 (mR M16 a0 7) 7 <|
  cI (f7_ofRule M16 (mR M16 a0 7) a1 (2 : Int32)) fun r27 M27 =>
  if a2 = (-1 : Int32) then
    if r6 = (-1 : Int32) then
      some ((-1 : Int32), M27)
    else
      cI (f2_headOf M27 r27 r6) fun r49 M49 =>
      some (r49, M49)
  else
    if r16 = (-1 : Int32) then
      some ((-1 : Int32), M27)
    else
      aO M27 a0 2 <|
      cI (f2_canPop M27 a0 r27 r6 a2) fun r64 M64 =>
      if r64 = 0 then
        some ((-1 : Int32), M64)
      else
        cI (f2_headOf M64 a2 r16) fun r73 M73 =>
        some (r73, M73)
set_option maxRecDepth 4000 in
theorem T2_headBehind (M : MM) (a0 : Nat) (a1 : Int32) (a2 : Int32) : ∀ q, f2_headBehind M a0 a1 a2 = some q → Run i2_headBehind [vr a0, vi a1, vi a2] M (Li q) := by
  obtain ⟨d0, d1, d4, d5, d6, d9, d10, d11, d14, d15, d16, d19, d21, d22, d25, d26, d27, d30, d32, d33, d34, d37, d38, d39, d42, d43, d46, d48, d49, d52, d53, d55, d56, d59, d60, d62, d63, d64, d67, d70, d71, d73, d76, d79, d80, -⟩ := dd2_headBehind
  refine Run_of_X (by decide) (Nat.le_of_ble_eq_true rfl) ?_
  show X Li i2_headBehind 0 [(0, vr a0), (1, vi a1), (2, vi a2)] [] M _
  unfold f2_headBehind
  refine X_aloadn 0 d0 rfl ?_
  refine X_getR d1 fg_x2_43 ?_
  refine X_iloadn 1 d4 rfl ?_
  refine X_iconst k_i_4 d5 ?_
  refine X_cVi (as := [vi a1, vi (4 : Int32)]) d6 cv_x2_51 ⟨by decide, by decide⟩ rfl (Nat.le_of_ble_eq_true rfl) (T7_ofRule M (mR M a0 7) a1 (4 : Int32)) (fun r6 M6 _ => ?_)
  refine X_istoren (lv' := [(3, vi r6), (0, vr a0), (1, vi a1), (2, vi a2)]) d9 (by decide) rfl ?_
  refine X_aloadn 1 d10 rfl ?_
  refine X_getR d11 fg_x2_43 ?_
  refine X_iloadn 2 d14 rfl ?_
  refine X_iconst k_i_5 d15 ?_
  refine X_cVi (as := [vi a1, vi (5 : Int32)]) d16 cv_x2_51 ⟨by decide, by decide⟩ rfl (Nat.le_of_ble_eq_true rfl) (T7_ofRule M6 (mR M6 a0 7) a1 (5 : Int32)) (fun r16 M16 _ => ?_)
  refine X_istore (lv' := [(4, vi r16), (3, vi r6), (0, vr a0), (1, vi a1), (2, vi a2)]) d19 (by decide) rfl ?_
  refine X_aloadn 2 d21 rfl ?_
  refine X_getR d22 fg_x2_43 ?_
  refine X_iloadn 3 d25 rfl ?_
  refine X_iconst k_i_2 d26 ?_
  refine X_cVi (as := [vi a1, vi (2 : Int32)]) d27 cv_x2_51 ⟨by decide, by decide⟩ rfl (Nat.le_of_ble_eq_true rfl) (T7_ofRule M16 (mR M16 a0 7) a1 (2 : Int32)) (fun r27 M27 _ => ?_)
  refine X_istore (lv' := [(5, vi r27), (4, vi r16), (3, vi r6), (0, vr a0), (1, vi a1), (2, vi a2)]) d30 (by decide) rfl ?_
  refine X_iloadn 5 d32 rfl ?_
  refine X_iconst k_i_m1 d33 ?_
  refine X_icmp_ne (t := 53) d34 rfl (fun h34 => ?_) (fun h34 => ?_)
  · refine X_iloadn 2 d37 rfl ?_
    refine X_iconst k_i_m1 d38 ?_
    refine X_icmp_ne (t := 46) d39 rfl (fun h39 => ?_) (fun h39 => ?_)
    · refine X_iconst k_i_m1 d42 ?_
      refine X_goto (t := 52) d43 rfl ?_
      exact X_ireturn d52 rfl rfl
    · refine X_iload 0 d46 rfl ?_
      refine X_iloadn 2 d48 rfl ?_
      refine X_cSi (as := [vi r27, vi r6]) d49 cs_x2_57 ⟨by decide, by decide⟩ rfl (Nat.le_of_ble_eq_true rfl) (T2_headOf M27 r27 r6) (fun r49 M49 _ => ?_)
      exact X_ireturn d52 rfl rfl
  · refine X_iload 1 d53 rfl ?_
    refine X_iconst k_i_m1 d55 ?_
    refine X_icmp_eq (t := 79) d56 rfl (fun h56 => ?_) (fun h56 => ?_)
    · refine X_iconst k_i_m1 d79 ?_
      exact X_ireturn d80 rfl rfl
    · refine X_aloadn 3 d59 rfl ?_
      refine X_iload 0 d60 rfl ?_
      refine X_iloadn 2 d62 rfl ?_
      refine X_iloadn 5 d63 rfl ?_
      refine X_cVi (as := [vi r27, vi r6, vi a2]) d64 cv_x2_68 ⟨by decide, by decide⟩ rfl (Nat.le_of_ble_eq_true rfl) (T2_canPop M27 a0 r27 r6 a2) (fun r64 M64 _ => ?_)
      refine X_if_eq (t := 79) d67 rfl (fun h67 => ?_) (fun h67 => ?_)
      · refine X_iconst k_i_m1 d79 ?_
        exact X_ireturn d80 rfl rfl
      · refine X_iloadn 5 d70 rfl ?_
        refine X_iload 1 d71 rfl ?_
        refine X_cSi (as := [vi a2, vi r16]) d73 cs_x2_57 ⟨by decide, by decide⟩ rfl (Nat.le_of_ble_eq_true rfl) (T2_headOf M64 a2 r16) (fun r73 M73 _ => ?_)
        refine X_goto (t := 80) d76 rfl ?_
        exact X_ireturn d80 rfl rfl

theorem dd2_goesOnToLasting_b39 : AllD (ib i2_goesOnToLasting) [(39, .iinc 2 1, 3), (42, .goto (-40), 3)] := allD_of (by decide +kernel)
def f2_goesOnToLasting_b39 (K2 : MM → Nat → Int32 → Int32 → Option (Int32 × MM)) (M : MM) (a0 : Nat) (a1 : Int32) (a2 : Int32) : Option (Int32 × MM) :=
  K2 M a0 a1 (a2 + (1 : Int32))
set_option maxRecDepth 4000 in
theorem T2_goesOnToLasting_b39 {K2 : MM → Nat → Int32 → Int32 → Option (Int32 × MM)} (hK2 : ∀ (M : MM) (a0 : Nat) (a1 : Int32) (a2 : Int32), X Li i2_goesOnToLasting 2 [(0, vr a0), (1, vi a1), (2, vi a2)] [] M (K2 M a0 a1 a2)) : ∀ (M : MM) (a0 : Nat) (a1 : Int32) (a2 : Int32), X Li i2_goesOnToLasting 39 [(0, vr a0), (1, vi a1), (2, vi a2)] [] M (f2_goesOnToLasting_b39 K2 M a0 a1 a2) := by
  obtain ⟨d39, d42, -⟩ := dd2_goesOnToLasting_b39
  intro M a0 a1 a2
  unfold f2_goesOnToLasting_b39
  refine X_inc (lv' := [(2, vi (a2 + (1 : Int32))), (0, vr a0), (1, vi a1)]) 2 d39 k_i_1 rfl (by decide) rfl ?_
  refine X_goto (t := 2) d42 rfl ?_
  refine X_sub [1, 2, 0] rfl ?_
  exact hK2 M a0 a1 (a2 + (1 : Int32))

theorem dd2_goesOnToLasting_b2 : AllD (ib i2_goesOnToLasting) [(2, .iload_n 2, 1), (3, .aload_n 0, 1), (4, .getfield 43, 3), (7, .getfield 90, 3), (10, .if_icmp .ge 35, 3), (13, .aload_n 0, 1), (14, .iload_n 1, 1), (15, .iload_n 2, 1), (16, .invokevirtual 93, 3), (19, .istore_n 3, 1), (20, .iload_n 3, 1), (21, .iconst (-1), 1), (22, .if_icmp .eq 17, 3), (25, .aload_n 0, 1), (26, .getfield 20, 3), (29, .iload_n 3, 1), (30, .invokevirtual 72, 3), (33, .iconst 1, 1), (34, .if_icmp .ne 5, 3), (37, .iconst 1, 1), (38, .ireturn, 1), (45, .iconst 0, 1), (46, .ireturn, 1)] := allD_of (by decide +kernel)
def f2_goesOnToLasting_b2_body (rc : MM → Nat → Int32 → Int32 → Option (Int32 × MM)) (M : MM) (a0 : Nat) (a1 : Int32) (a2 : Int32) : Option (Int32 × MM) :=
  aO M a0 2 <|
  aO M (mR M a0 7) 7 <|
  if (mI M (mR M a0 7) 4) ≤ a2 then
    some ((0 : Int32), M)
  else
    aO M a0 2 <|
    cI (f2_headBehind M a0 a1 a2) fun r16 M16 =>
    if r16 = (-1 : Int32) then
      (f2_goesOnToLasting_b39 rc) M16 a0 a1 a2
    else
      aO M16 a0 2 <|
      aO M16 (mR M16 a0 1) 3 <|
      cI (f3_get M16 (mR M16 a0 1) r16) fun r30 M30 =>
      if r30 = (1 : Int32) then
        some ((1 : Int32), M30)
      else
        (f2_goesOnToLasting_b39 rc) M30 a0 a1 a2
def f2_goesOnToLasting_b2 : MM → Nat → Int32 → Int32 → Option (Int32 × MM) := LP4 (f2_goesOnToLasting_b2_body) FU
set_option maxRecDepth 4000 in
theorem T2_goesOnToLasting_b2 : ∀ (M : MM) (a0 : Nat) (a1 : Int32) (a2 : Int32), X Li i2_goesOnToLasting 2 [(0, vr a0), (1, vi a1), (2, vi a2)] [] M (f2_goesOnToLasting_b2 M a0 a1 a2) := by
  obtain ⟨d2, d3, d4, d7, d10, d13, d14, d15, d16, d19, d20, d21, d22, d25, d26, d29, d30, d33, d34, d37, d38, d45, d46, -⟩ := dd2_goesOnToLasting_b2
  refine LP4_i (P := fun M a0 a1 a2 o => X Li i2_goesOnToLasting 2 [(0, vr a0), (1, vi a1), (2, vi a2)] [] M o) (fun _ _ _ _ => X_none) (fun rc ih M a0 a1 a2 => ?_) FU
  unfold f2_goesOnToLasting_b2_body
  refine X_iloadn 2 d2 rfl ?_
  refine X_aloadn 0 d3 rfl ?_
  refine X_getR d4 fg_x2_43 ?_
  refine X_getI d7 fg_x2_90 ?_
  refine X_icmp_ge (t := 45) d10 rfl (fun h10 => ?_) (fun h10 => ?_)
  · refine X_iconst k_i_0 d45 ?_
    exact X_zreturnc d46 rfl (by decide) rfl
  · refine X_aloadn 0 d13 rfl ?_
    refine X_iloadn 1 d14 rfl ?_
    refine X_iloadn 2 d15 rfl ?_
    refine X_cVi (as := [vi a1, vi a2]) d16 cv_x2_93 ⟨by decide, by decide⟩ rfl (Nat.le_of_ble_eq_true rfl) (T2_headBehind M a0 a1 a2) (fun r16 M16 _ => ?_)
    refine X_istoren (lv' := [(3, vi r16), (0, vr a0), (1, vi a1), (2, vi a2)]) d19 (by decide) rfl ?_
    refine X_iloadn 0 d20 rfl ?_
    refine X_iconst k_i_m1 d21 ?_
    refine X_icmp_eq (t := 39) d22 rfl (fun h22 => ?_) (fun h22 => ?_)
    · refine X_sub [1, 2, 3] rfl ?_
      exact (T2_goesOnToLasting_b39 ih) M16 a0 a1 a2
    · refine X_aloadn 1 d25 rfl ?_
      refine X_getR d26 fg_x2_20 ?_
      refine X_iloadn 0 d29 rfl ?_
      refine X_cVi (as := [vi r16]) d30 cv_x2_72 ⟨by decide, by decide⟩ rfl (Nat.le_of_ble_eq_true rfl) (T3_get M16 (mR M16 a0 1) r16) (fun r30 M30 _ => ?_)
      refine X_iconst k_i_1 d33 ?_
      refine X_icmp_ne (t := 39) d34 rfl (fun h34 => ?_) (fun h34 => ?_)
      · refine X_iconst k_i_1 d37 ?_
        exact X_zreturnc d38 rfl (by decide) rfl
      · refine X_sub [1, 2, 3] rfl ?_
        exact (T2_goesOnToLasting_b39 ih) M30 a0 a1 a2

theorem dd2_goesOnToLasting : AllD (ib i2_goesOnToLasting) [(0, .iconst (-1), 1), (1, .istore_n 2, 1)] := allD_of (by decide +kernel)
def f2_goesOnToLasting (M : MM) (a0 : Nat) (a1 : Int32) : Option (Int32 × MM) :=
  f2_goesOnToLasting_b2 M a0 a1 (-1 : Int32)
set_option maxRecDepth 4000 in
theorem T2_goesOnToLasting (M : MM) (a0 : Nat) (a1 : Int32) : ∀ q, f2_goesOnToLasting M a0 a1 = some q → Run i2_goesOnToLasting [vr a0, vi a1] M (Li q) := by
  obtain ⟨d0, d1, -⟩ := dd2_goesOnToLasting
  refine Run_of_X (by decide) (Nat.le_of_ble_eq_true rfl) ?_
  show X Li i2_goesOnToLasting 0 [(0, vr a0), (1, vi a1)] [] M _
  unfold f2_goesOnToLasting
  refine X_iconst k_i_m1 d0 ?_
  refine X_istoren (lv' := [(2, vi (-1 : Int32)), (0, vr a0), (1, vi a1)]) d1 (by decide) rfl ?_
  refine X_sub [1, 2, 0] rfl ?_
  exact T2_goesOnToLasting_b2 M a0 a1 (-1 : Int32)

