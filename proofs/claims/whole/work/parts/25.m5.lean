/-! printed by program: methods as functions, and that the bytecode does what they tell -/
theorem dd11_pops : AllD (ib i11_pops) [(0, .aload_n 0, 1), (1, .getfield 19, 3), (4, .iload_n 1, 1), (5, .invokevirtual 231, 3), (8, .ifCond .eq 25, 3), (11, .aload_n 0, 1), (12, .getfield 19, 3), (15, .iload_n 2, 1), (16, .invokevirtual 234, 3), (19, .ifCond .eq 14, 3), (22, .aload_n 0, 1), (23, .getfield 19, 3), (26, .iload_n 3, 1), (27, .invokevirtual 231, 3), (30, .ifCond .ne 13, 3), (43, .aload_n 0, 1), (44, .invokevirtual 244, 3), (47, .aload_n 0, 1), (48, .getfield 57, 3), (51, .iload_n 1, 1), (52, .iload_n 2, 1), (53, .iload_n 3, 1), (54, .invokevirtual 247, 3), (57, .invokestatic 212, 3), (60, .lreturn, 1)] := allD_of (by decide +kernel)
def f11_pops (M : MM) (a0 : Nat) (a1 : Int32) (a2 : Int32) (a3 : Int32) : Option (Int64 × MM) :=
  aO M a0 11 <|
  aO M (mR M a0 10) 7 <|
  cI (f7_hasState M (mR M a0 10) a1) fun r5 M5 =>
  if r5 = 0 then
    none
  else
    aO M5 a0 11 <|
    aO M5 (mR M5 a0 10) 7 <|
    cI (f7_hasSign M5 (mR M5 a0 10) a2) fun r16 M16 =>
    if r16 = 0 then
      none
    else
      aO M16 a0 11 <|
      aO M16 (mR M16 a0 10) 7 <|
      cI (f7_hasState M16 (mR M16 a0 10) a3) fun r27 M27 =>
      if r27 = 0 then
        none
      else
        aO M27 a0 11 <|
        cV (f11_settleCosts M27 a0) fun M44 =>
        aO M44 a0 11 <|
        aO M44 (mR M44 a0 5) 1 <|
        cJ (f1_edge M44 (mR M44 a0 5) a1 a2 a3) fun r54 M54 =>
        cJ (f11_told M54 r54) fun r57 M57 =>
        some (r57, M57)
set_option maxRecDepth 4000 in
theorem T11_pops (M : MM) (a0 : Nat) (a1 : Int32) (a2 : Int32) (a3 : Int32) : ∀ q, f11_pops M a0 a1 a2 a3 = some q → Run i11_pops [vr a0, vi a1, vi a2, vi a3] M (Ll q) := by
  obtain ⟨d0, d1, d4, d5, d8, d11, d12, d15, d16, d19, d22, d23, d26, d27, d30, d43, d44, d47, d48, d51, d52, d53, d54, d57, d60, -⟩ := dd11_pops
  refine Run_of_X (by decide) (Nat.le_of_ble_eq_true rfl) ?_
  show X Ll i11_pops 0 [(0, vr a0), (1, vi a1), (2, vi a2), (3, vi a3)] [] M _
  unfold f11_pops
  refine X_aloadn 0 d0 rfl ?_
  refine X_getR d1 fg_x11_19 ?_
  refine X_iloadn 1 d4 rfl ?_
  refine X_cVi (as := [vi a1]) d5 cv_x11_231 ⟨by decide, by decide⟩ rfl (Nat.le_of_ble_eq_true rfl) (T7_hasState M (mR M a0 10) a1) (fun r5 M5 _ => ?_)
  refine X_if_eq (t := 33) d8 rfl (fun h8 => ?_) (fun h8 => ?_)
  · exact X_none
  · refine X_aloadn 0 d11 rfl ?_
    refine X_getR d12 fg_x11_19 ?_
    refine X_iloadn 2 d15 rfl ?_
    refine X_cVi (as := [vi a2]) d16 cv_x11_234 ⟨by decide, by decide⟩ rfl (Nat.le_of_ble_eq_true rfl) (T7_hasSign M5 (mR M5 a0 10) a2) (fun r16 M16 _ => ?_)
    refine X_if_eq (t := 33) d19 rfl (fun h19 => ?_) (fun h19 => ?_)
    · exact X_none
    · refine X_aloadn 0 d22 rfl ?_
      refine X_getR d23 fg_x11_19 ?_
      refine X_iloadn 3 d26 rfl ?_
      refine X_cVi (as := [vi a3]) d27 cv_x11_231 ⟨by decide, by decide⟩ rfl (Nat.le_of_ble_eq_true rfl) (T7_hasState M16 (mR M16 a0 10) a3) (fun r27 M27 _ => ?_)
      refine X_if_ne (t := 43) d30 rfl (fun h30 => ?_) (fun h30 => ?_)
      · exact X_none
      · refine X_aloadn 0 d43 rfl ?_
        refine X_cVv (as := []) d44 cv_x11_244 ⟨by decide, by decide⟩ rfl (Nat.le_of_ble_eq_true rfl) (T11_settleCosts M27 a0) (fun M44 _ => ?_)
        refine X_aloadn 0 d47 rfl ?_
        refine X_getR d48 fg_x11_57 ?_
        refine X_iloadn 1 d51 rfl ?_
        refine X_iloadn 2 d52 rfl ?_
        refine X_iloadn 3 d53 rfl ?_
        refine X_cVl (as := [vi a1, vi a2, vi a3]) d54 cv_x11_247 ⟨by decide, by decide⟩ rfl (Nat.le_of_ble_eq_true rfl) (T1_edge M44 (mR M44 a0 5) a1 a2 a3) (fun r54 M54 _ => ?_)
        refine X_cSl (as := [vl r54]) d57 cs_x11_212 ⟨by decide, by decide⟩ rfl (Nat.le_of_ble_eq_true rfl) (T11_told M54 r54) (fun r57 M57 _ => ?_)
        exact X_lreturn d60 rfl rfl

theorem dd11_rises : AllD (ib i11_rises) [(0, .aload_n 0, 1), (1, .getfield 19, 3), (4, .iload_n 1, 1), (5, .invokevirtual 231, 3), (8, .ifCond .eq 14, 3), (11, .aload_n 0, 1), (12, .getfield 19, 3), (15, .iload_n 2, 1), (16, .invokevirtual 234, 3), (19, .ifCond .ne 13, 3), (32, .aload_n 0, 1), (33, .invokevirtual 274, 3), (36, .aload_n 0, 1), (37, .getfield 76, 3), (40, .invokevirtual 277, 3), (43, .aload_n 0, 1), (44, .getfield 76, 3), (47, .iload_n 1, 1), (48, .iload_n 2, 1), (49, .invokevirtual 283, 3), (52, .ireturn, 1)] := allD_of (by decide +kernel)
def f11_rises (M : MM) (a0 : Nat) (a1 : Int32) (a2 : Int32) : Option (Int32 × MM) :=
  aO M a0 11 <|
  aO M (mR M a0 10) 7 <|
  cI (f7_hasState M (mR M a0 10) a1) fun r5 M5 =>
  if r5 = 0 then
    none
  else
    aO M5 a0 11 <|
    aO M5 (mR M5 a0 10) 7 <|
    cI (f7_hasSign M5 (mR M5 a0 10) a2) fun r16 M16 =>
    if r16 = 0 then
      none
    else
      aO M16 a0 11 <|
      cV (f11_settleHeads M16 a0) fun M33 =>
      aO M33 a0 11 <|
      aO M33 (mR M33 a0 8) 2 <|
      cV (f2_findRises M33 (mR M33 a0 8)) fun M40 =>
      aO M40 a0 11 <|
      aO M40 (mR M40 a0 8) 2 <|
      cI (f2_riseOf M40 (mR M40 a0 8) a1 a2) fun r49 M49 =>
      some (r49, M49)
set_option maxRecDepth 4000 in
theorem T11_rises (M : MM) (a0 : Nat) (a1 : Int32) (a2 : Int32) : ∀ q, f11_rises M a0 a1 a2 = some q → Run i11_rises [vr a0, vi a1, vi a2] M (Li q) := by
  obtain ⟨d0, d1, d4, d5, d8, d11, d12, d15, d16, d19, d32, d33, d36, d37, d40, d43, d44, d47, d48, d49, d52, -⟩ := dd11_rises
  refine Run_of_X (by decide) (Nat.le_of_ble_eq_true rfl) ?_
  show X Li i11_rises 0 [(0, vr a0), (1, vi a1), (2, vi a2)] [] M _
  unfold f11_rises
  refine X_aloadn 0 d0 rfl ?_
  refine X_getR d1 fg_x11_19 ?_
  refine X_iloadn 1 d4 rfl ?_
  refine X_cVi (as := [vi a1]) d5 cv_x11_231 ⟨by decide, by decide⟩ rfl (Nat.le_of_ble_eq_true rfl) (T7_hasState M (mR M a0 10) a1) (fun r5 M5 _ => ?_)
  refine X_if_eq (t := 22) d8 rfl (fun h8 => ?_) (fun h8 => ?_)
  · exact X_none
  · refine X_aloadn 0 d11 rfl ?_
    refine X_getR d12 fg_x11_19 ?_
    refine X_iloadn 2 d15 rfl ?_
    refine X_cVi (as := [vi a2]) d16 cv_x11_234 ⟨by decide, by decide⟩ rfl (Nat.le_of_ble_eq_true rfl) (T7_hasSign M5 (mR M5 a0 10) a2) (fun r16 M16 _ => ?_)
    refine X_if_ne (t := 32) d19 rfl (fun h19 => ?_) (fun h19 => ?_)
    · exact X_none
    · refine X_aloadn 0 d32 rfl ?_
      refine X_cVv (as := []) d33 cv_x11_274 ⟨by decide, by decide⟩ rfl (Nat.le_of_ble_eq_true rfl) (T11_settleHeads M16 a0) (fun M33 _ => ?_)
      refine X_aloadn 0 d36 rfl ?_
      refine X_getR d37 fg_x11_76 ?_
      refine X_cVv (as := []) d40 cv_x11_277 ⟨by decide, by decide⟩ rfl (Nat.le_of_ble_eq_true rfl) (T2_findRises M33 (mR M33 a0 8)) (fun M40 _ => ?_)
      refine X_aloadn 0 d43 rfl ?_
      refine X_getR d44 fg_x11_76 ?_
      refine X_iloadn 1 d47 rfl ?_
      refine X_iloadn 2 d48 rfl ?_
      refine X_cVi (as := [vi a1, vi a2]) d49 cv_x11_283 ⟨by decide, by decide⟩ rfl (Nat.le_of_ble_eq_true rfl) (T2_riseOf M40 (mR M40 a0 8) a1 a2) (fun r49 M49 _ => ?_)
      exact X_ireturn d52 rfl rfl

theorem dd11_rule : AllD (ib i11_rule) [(0, .aload_n 0, 1), (1, .getfield 19, 3), (4, .iload_n 1, 1), (5, .invokevirtual 139, 3), (8, .ifCond .ne 6, 3), (11, .bipush (-2), 2), (13, .ireturn, 1), (14, .iload_n 2, 1), (15, .bipush 7, 2), (17, .if_icmp .ne 17, 3), (20, .aload_n 0, 1), (21, .iload_n 1, 1), (22, .invokevirtual 143, 3), (25, .ifCond .eq 7, 3), (28, .iconst 1, 1), (29, .goto 4, 3), (32, .iconst 0, 1), (33, .ireturn, 1), (34, .iload_n 2, 1), (35, .ifCond .lt 21, 3), (38, .iload_n 2, 1), (39, .bipush 7, 2), (41, .if_icmp .ge 15, 3), (44, .aload_n 0, 1), (45, .getfield 19, 3), (48, .iload_n 1, 1), (49, .iload_n 2, 1), (50, .invokevirtual 146, 3), (53, .goto 5, 3), (56, .bipush (-2), 2), (58, .ireturn, 1)] := allD_of (by decide +kernel)
def f11_rule (M : MM) (a0 : Nat) (a1 : Int32) (a2 : Int32) : Option (Int32 × MM) :=
  aO M a0 11 <|
  aO M (mR M a0 10) 7 <|
  cI (f7_hasRule M (mR M a0 10) a1) fun r5 M5 =>
  if r5 = 0 then
    some ((-2 : Int32), M5)
  else
    if a2 = (7 : Int32) then
      aO M5 a0 11 <|
      cI (f11_isOut M5 a0 a1) fun r22 M22 =>
      if r22 = 0 then
        some ((0 : Int32), M22)
      else
        some ((1 : Int32), M22)
    else
      if a2 < 0 then
        some ((-2 : Int32), M5)
      else
        if (7 : Int32) ≤ a2 then
          some ((-2 : Int32), M5)
        else
          aO M5 a0 11 <|
          aO M5 (mR M5 a0 10) 7 <|
          cI (f7_ofRule M5 (mR M5 a0 10) a1 a2) fun r50 M50 =>
          some (r50, M50)
set_option maxRecDepth 4000 in
theorem T11_rule (M : MM) (a0 : Nat) (a1 : Int32) (a2 : Int32) : ∀ q, f11_rule M a0 a1 a2 = some q → Run i11_rule [vr a0, vi a1, vi a2] M (Li q) := by
  obtain ⟨d0, d1, d4, d5, d8, d11, d13, d14, d15, d17, d20, d21, d22, d25, d28, d29, d32, d33, d34, d35, d38, d39, d41, d44, d45, d48, d49, d50, d53, d56, d58, -⟩ := dd11_rule
  refine Run_of_X (by decide) (Nat.le_of_ble_eq_true rfl) ?_
  show X Li i11_rule 0 [(0, vr a0), (1, vi a1), (2, vi a2)] [] M _
  unfold f11_rule
  refine X_aloadn 0 d0 rfl ?_
  refine X_getR d1 fg_x11_19 ?_
  refine X_iloadn 1 d4 rfl ?_
  refine X_cVi (as := [vi a1]) d5 cv_x11_139 ⟨by decide, by decide⟩ rfl (Nat.le_of_ble_eq_true rfl) (T7_hasRule M (mR M a0 10) a1) (fun r5 M5 _ => ?_)
  refine X_if_ne (t := 14) d8 rfl (fun h8 => ?_) (fun h8 => ?_)
  · refine X_bipush k_b_m2 d11 ?_
    exact X_ireturn d13 rfl rfl
  · refine X_iloadn 2 d14 rfl ?_
    refine X_bipush k_b_7 d15 ?_
    refine X_icmp_ne (t := 34) d17 rfl (fun h17 => ?_) (fun h17 => ?_)
    · refine X_aloadn 0 d20 rfl ?_
      refine X_iloadn 1 d21 rfl ?_
      refine X_cVi (as := [vi a1]) d22 cv_x11_143 ⟨by decide, by decide⟩ rfl (Nat.le_of_ble_eq_true rfl) (T11_isOut M5 a0 a1) (fun r22 M22 _ => ?_)
      refine X_if_eq (t := 32) d25 rfl (fun h25 => ?_) (fun h25 => ?_)
      · refine X_iconst k_i_0 d32 ?_
        exact X_ireturn d33 rfl rfl
      · refine X_iconst k_i_1 d28 ?_
        refine X_goto (t := 33) d29 rfl ?_
        exact X_ireturn d33 rfl rfl
    · refine X_iloadn 2 d34 rfl ?_
      refine X_if_lt (t := 56) d35 rfl (fun h35 => ?_) (fun h35 => ?_)
      · refine X_bipush k_b_m2 d56 ?_
        exact X_ireturn d58 rfl rfl
      · refine X_iloadn 2 d38 rfl ?_
        refine X_bipush k_b_7 d39 ?_
        refine X_icmp_ge (t := 56) d41 rfl (fun h41 => ?_) (fun h41 => ?_)
        · refine X_bipush k_b_m2 d56 ?_
          exact X_ireturn d58 rfl rfl
        · refine X_aloadn 0 d44 rfl ?_
          refine X_getR d45 fg_x11_19 ?_
          refine X_iloadn 1 d48 rfl ?_
          refine X_iloadn 2 d49 rfl ?_
          refine X_cVi (as := [vi a1, vi a2]) d50 cv_x11_146 ⟨by decide, by decide⟩ rfl (Nat.le_of_ble_eq_true rfl) (T7_ofRule M5 (mR M5 a0 10) a1 a2) (fun r50 M50 _ => ?_)
          refine X_goto (t := 58) d53 rfl ?_
          exact X_ireturn d58 rfl rfl

theorem dd11_run_b43 : AllD (ib i11_run) [(43, .iload 4, 2), (45, .iload_n 2, 1), (46, .if_icmp .ge 62, 3), (49, .aload_n 0, 1), (50, .invokevirtual 189, 3), (53, .istore 5, 2), (55, .iload 5, 2), (57, .invokestatic 193, 3), (60, .istore 6, 2), (62, .iload 6, 2), (64, .ifCond .ne 6, 3), (67, .iload 4, 2), (69, .ireturn, 1), (70, .iload_n 3, 1), (71, .ldc 198, 2), (73, .imul, 1), (74, .sipush 12345, 3), (77, .iadd, 1), (78, .istore_n 3, 1), (79, .aload_n 0, 1), (80, .getfield 40, 3), (83, .aload_n 0, 1), (84, .getfield 19, 3), (87, .iload 5, 2), (89, .iload_n 3, 1), (90, .bipush 16, 2), (92, .iushr, 1), (93, .iload 6, 2), (95, .irem, 1), (96, .invokestatic 199, 3), (99, .invokevirtual 185, 3), (102, .iinc 4 1, 3), (105, .goto (-62), 3), (108, .iload_n 2, 1), (109, .ireturn, 1)] := allD_of (by decide +kernel)
def f11_run_b43_body (rc : MM → Nat → Int32 → Int32 → Int32 → Option (Int32 × MM)) (M : MM) (a0 : Nat) (a2 : Int32) (a3 : Int32) (a4 : Int32) : Option (Int32 × MM) :=
  if a2 ≤ a4 then
    some (a2, M)
  else
    aO M a0 11 <|
    cI (f11_can M a0) fun r50 M50 =>
    cI (fJ_bitCount M50 r50) fun r57 M57 =>
    if r57 = 0 then
      some (a4, M57)
    else
      bW ((a3 * (1103515245 : Int32)) + (12345 : Int32)) fun v78 =>
      aO M57 a0 11 <|
      aO M57 a0 11 <|
      gd (¬ r57 = 0) <|
      cI (f11_bitByNumber M57 r50 ((ushr v78 (16 : Int32)) - (ushr v78 (16 : Int32)) / r57 * r57)) fun r96 M96 =>
      aO M96 (mR M57 a0 2) 6 <|
      cV (f6_stepBy M96 (mR M57 a0 2) (mR M57 a0 10) r96) fun M99 =>
      rc M99 a0 a2 v78 (a4 + (1 : Int32))
def f11_run_b43 : MM → Nat → Int32 → Int32 → Int32 → Option (Int32 × MM) := LP5 (f11_run_b43_body) FU
set_option maxRecDepth 4000 in
theorem T11_run_b43 : ∀ (M : MM) (a0 : Nat) (a2 : Int32) (a3 : Int32) (a4 : Int32), X Li i11_run 43 [(0, vr a0), (2, vi a2), (3, vi a3), (4, vi a4)] [] M (f11_run_b43 M a0 a2 a3 a4) := by
  obtain ⟨d43, d45, d46, d49, d50, d53, d55, d57, d60, d62, d64, d67, d69, d70, d71, d73, d74, d77, d78, d79, d80, d83, d84, d87, d89, d90, d92, d93, d95, d96, d99, d102, d105, d108, d109, -⟩ := dd11_run_b43
  refine LP5_i (P := fun M a0 a2 a3 a4 o => X Li i11_run 43 [(0, vr a0), (2, vi a2), (3, vi a3), (4, vi a4)] [] M o) (fun _ _ _ _ _ => X_none) (fun rc ih M a0 a2 a3 a4 => ?_) FU
  unfold f11_run_b43_body
  refine X_iload 3 d43 rfl ?_
  refine X_iloadn 1 d45 rfl ?_
  refine X_icmp_ge (t := 108) d46 rfl (fun h46 => ?_) (fun h46 => ?_)
  · refine X_iloadn 1 d108 rfl ?_
    exact X_ireturn d109 rfl rfl
  · refine X_aloadn 0 d49 rfl ?_
    refine X_cVi (as := []) d50 cv_x11_189 ⟨by decide, by decide⟩ rfl (Nat.le_of_ble_eq_true rfl) (T11_can M a0) (fun r50 M50 _ => ?_)
    refine X_istore (lv' := [(5, vi r50), (0, vr a0), (2, vi a2), (3, vi a3), (4, vi a4)]) d53 (by decide) rfl ?_
    refine X_iload 0 d55 rfl ?_
    refine X_cSi (as := [vi r50]) d57 cs_x11_193 ⟨by decide, by decide⟩ rfl (Nat.le_of_ble_eq_true rfl) (TJ_bitCount M50 r50) (fun r57 M57 _ => ?_)
    refine X_istore (lv' := [(6, vi r57), (5, vi r50), (0, vr a0), (2, vi a2), (3, vi a3), (4, vi a4)]) d60 (by decide) rfl ?_
    refine X_iload 0 d62 rfl ?_
    refine X_if_ne (t := 70) d64 rfl (fun h64 => ?_) (fun h64 => ?_)
    · refine X_iload 5 d67 rfl ?_
      exact X_ireturn d69 rfl rfl
    · refine X_iloadn 4 d70 rfl ?_
      refine X_ldc kc_x11_198 d71 ?_
      refine X_imul d73 ?_
      refine X_sipush k_s_12345 d74 ?_
      refine X_iadd d77 ?_
      refine X_bWi fun v78 _ => ?_
      refine X_istoren (lv' := [(3, vi v78), (6, vi r57), (5, vi r50), (0, vr a0), (2, vi a2), (4, vi a4)]) d78 (by decide) rfl ?_
      refine X_aloadn 3 d79 rfl ?_
      refine X_getR d80 fg_x11_40 ?_
      refine X_aloadn 3 d83 rfl ?_
      refine X_getR d84 fg_x11_19 ?_
      refine X_iload 2 d87 rfl ?_
      refine X_iloadn 0 d89 rfl ?_
      refine X_bipush k_b_16 d90 ?_
      refine X_iushr d92 ?_
      refine X_iload 1 d93 rfl ?_
      refine X_irem d95 ?_
      refine X_cSi (as := [vi r50, vi ((ushr v78 (16 : Int32)) - (ushr v78 (16 : Int32)) / r57 * r57)]) d96 cs_x11_199 ⟨by decide, by decide⟩ rfl (Nat.le_of_ble_eq_true rfl) (T11_bitByNumber M57 r50 ((ushr v78 (16 : Int32)) - (ushr v78 (16 : Int32)) / r57 * r57)) (fun r96 M96 _ => ?_)
      refine X_cVv (as := [vr (mR M57 a0 10), vi r96]) d99 cv_x11_185 ⟨by decide, by decide⟩ rfl (Nat.le_of_ble_eq_true rfl) (T6_stepBy M96 (mR M57 a0 2) (mR M57 a0 10) r96) (fun M99 _ => ?_)
      refine X_inc (lv' := [(4, vi (a4 + (1 : Int32))), (3, vi v78), (6, vi r57), (5, vi r50), (0, vr a0), (2, vi a2)]) 5 d102 k_i_1 rfl (by decide) rfl ?_
      refine X_goto (t := 43) d105 rfl ?_
      refine X_sub [4, 5, 1, 0] rfl ?_
      exact ih M99 a0 a2 v78 (a4 + (1 : Int32))

theorem dd11_run : AllD (ib i11_run) [(0, .aload_n 0, 1), (1, .getfield 40, 3), (4, .invokevirtual 168, 3), (7, .ifCond .ne 14, 3), (10, .iload_n 2, 1), (11, .iconst 1, 1), (12, .if_icmp .lt 9, 3), (15, .iload_n 2, 1), (16, .bipush 100, 2), (18, .if_icmp .le 5, 3), (21, .iconst (-1), 1), (22, .ireturn, 1), (23, .aload_n 0, 1), (24, .getfield 50, 3), (27, .aload_n 0, 1), (28, .getfield 40, 3), (31, .aload_n 0, 1), (32, .getfield 87, 3), (35, .invokevirtual 157, 3), (38, .iload_n 1, 1), (39, .istore_n 3, 1), (40, .iconst 0, 1), (41, .istore 4, 2)] := allD_of (by decide +kernel)
def f11_run (M : MM) (a0 : Nat) (a1 : Int32) (a2 : Int32) : Option (Int32 × MM) :=
  aO M a0 11 <|
  aO M (mR M a0 2) 6 <|
  cI (f6_isNone M (mR M a0 2)) fun r4 M4 =>
  if r4 = 0 then
    if a2 < (1 : Int32) then
      some ((-1 : Int32), M4)
    else
      if a2 ≤ (100 : Int32) then
        aO M4 a0 11 <|
        aO M4 a0 11 <|
        aO M4 a0 11 <|
        aO M4 (mR M4 a0 4) 0 <|
        cV (f0_keep M4 (mR M4 a0 4) (mR M4 a0 2) (mI M4 a0 12)) fun M35 =>
        f11_run_b43 M35 a0 a2 a1 (0 : Int32)
      else
        some ((-1 : Int32), M4)
  else
    some ((-1 : Int32), M4)
set_option maxRecDepth 4000 in
theorem T11_run (M : MM) (a0 : Nat) (a1 : Int32) (a2 : Int32) : ∀ q, f11_run M a0 a1 a2 = some q → Run i11_run [vr a0, vi a1, vi a2] M (Li q) := by
  obtain ⟨d0, d1, d4, d7, d10, d11, d12, d15, d16, d18, d21, d22, d23, d24, d27, d28, d31, d32, d35, d38, d39, d40, d41, -⟩ := dd11_run
  refine Run_of_X (by decide) (Nat.le_of_ble_eq_true rfl) ?_
  show X Li i11_run 0 [(0, vr a0), (1, vi a1), (2, vi a2)] [] M _
  unfold f11_run
  refine X_aloadn 0 d0 rfl ?_
  refine X_getR d1 fg_x11_40 ?_
  refine X_cVi (as := []) d4 cv_x11_168 ⟨by decide, by decide⟩ rfl (Nat.le_of_ble_eq_true rfl) (T6_isNone M (mR M a0 2)) (fun r4 M4 _ => ?_)
  refine X_if_ne (t := 21) d7 rfl (fun h7 => ?_) (fun h7 => ?_)
  · refine X_iloadn 2 d10 rfl ?_
    refine X_iconst k_i_1 d11 ?_
    refine X_icmp_lt (t := 21) d12 rfl (fun h12 => ?_) (fun h12 => ?_)
    · refine X_iconst k_i_m1 d21 ?_
      exact X_ireturn d22 rfl rfl
    · refine X_iloadn 2 d15 rfl ?_
      refine X_bipush k_b_100 d16 ?_
      refine X_icmp_le (t := 23) d18 rfl (fun h18 => ?_) (fun h18 => ?_)
      · refine X_aloadn 0 d23 rfl ?_
        refine X_getR d24 fg_x11_50 ?_
        refine X_aloadn 0 d27 rfl ?_
        refine X_getR d28 fg_x11_40 ?_
        refine X_aloadn 0 d31 rfl ?_
        refine X_getI d32 fg_x11_87 ?_
        refine X_cVv (as := [vr (mR M4 a0 2), vi (mI M4 a0 12)]) d35 cv_x11_157 ⟨by decide, by decide⟩ rfl (Nat.le_of_ble_eq_true rfl) (T0_keep M4 (mR M4 a0 4) (mR M4 a0 2) (mI M4 a0 12)) (fun M35 _ => ?_)
        refine X_iloadn 1 d38 rfl ?_
        refine X_istoren (lv' := [(3, vi a1), (0, vr a0), (1, vi a1), (2, vi a2)]) d39 (by decide) rfl ?_
        refine X_iconst k_i_0 d40 ?_
        refine X_istore (lv' := [(4, vi (0 : Int32)), (3, vi a1), (0, vr a0), (1, vi a1), (2, vi a2)]) d41 (by decide) rfl ?_
        refine X_sub [2, 4, 1, 0] rfl ?_
        exact T11_run_b43 M35 a0 a2 a1 (0 : Int32)
      · refine X_iconst k_i_m1 d21 ?_
        exact X_ireturn d22 rfl rfl
  · refine X_iconst k_i_m1 d21 ?_
    exact X_ireturn d22 rfl rfl

theorem dd11_same : AllD (ib i11_same) [(0, .aload_n 0, 1), (1, .getfield 19, 3), (4, .iload_n 1, 1), (5, .invokevirtual 231, 3), (8, .ifCond .eq 14, 3), (11, .aload_n 0, 1), (12, .getfield 19, 3), (15, .iload_n 2, 1), (16, .invokevirtual 231, 3), (19, .ifCond .ne 5, 3), (22, .iconst (-1), 1), (23, .ireturn, 1), (24, .aload_n 0, 1), (25, .iload_n 1, 1), (26, .invokevirtual 307, 3), (29, .aload_n 0, 1), (30, .getfield 83, 3), (33, .iload_n 1, 1), (34, .iload_n 2, 1), (35, .invokevirtual 335, 3), (38, .ifCond .eq 7, 3), (41, .iconst 1, 1), (42, .goto 4, 3), (45, .iconst 0, 1), (46, .ireturn, 1)] := allD_of (by decide +kernel)
def f11_same (M : MM) (a0 : Nat) (a1 : Int32) (a2 : Int32) : Option (Int32 × MM) :=
  aO M a0 11 <|
  aO M (mR M a0 10) 7 <|
  cI (f7_hasState M (mR M a0 10) a1) fun r5 M5 =>
  if r5 = 0 then
    some ((-1 : Int32), M5)
  else
    aO M5 a0 11 <|
    aO M5 (mR M5 a0 10) 7 <|
    cI (f7_hasState M5 (mR M5 a0 10) a2) fun r16 M16 =>
    if r16 = 0 then
      some ((-1 : Int32), M16)
    else
      aO M16 a0 11 <|
      cV (f11_settleMachine M16 a0 a1) fun M26 =>
      aO M26 a0 11 <|
      aO M26 (mR M26 a0 9) 5 <|
      cI (f5_startAlike M26 (mR M26 a0 9) a1 a2) fun r35 M35 =>
      if r35 = 0 then
        some ((0 : Int32), M35)
      else
        some ((1 : Int32), M35)
set_option maxRecDepth 4000 in
theorem T11_same (M : MM) (a0 : Nat) (a1 : Int32) (a2 : Int32) : ∀ q, f11_same M a0 a1 a2 = some q → Run i11_same [vr a0, vi a1, vi a2] M (Li q) := by
  obtain ⟨d0, d1, d4, d5, d8, d11, d12, d15, d16, d19, d22, d23, d24, d25, d26, d29, d30, d33, d34, d35, d38, d41, d42, d45, d46, -⟩ := dd11_same
  refine Run_of_X (by decide) (Nat.le_of_ble_eq_true rfl) ?_
  show X Li i11_same 0 [(0, vr a0), (1, vi a1), (2, vi a2)] [] M _
  unfold f11_same
  refine X_aloadn 0 d0 rfl ?_
  refine X_getR d1 fg_x11_19 ?_
  refine X_iloadn 1 d4 rfl ?_
  refine X_cVi (as := [vi a1]) d5 cv_x11_231 ⟨by decide, by decide⟩ rfl (Nat.le_of_ble_eq_true rfl) (T7_hasState M (mR M a0 10) a1) (fun r5 M5 _ => ?_)
  refine X_if_eq (t := 22) d8 rfl (fun h8 => ?_) (fun h8 => ?_)
  · refine X_iconst k_i_m1 d22 ?_
    exact X_ireturn d23 rfl rfl
  · refine X_aloadn 0 d11 rfl ?_
    refine X_getR d12 fg_x11_19 ?_
    refine X_iloadn 2 d15 rfl ?_
    refine X_cVi (as := [vi a2]) d16 cv_x11_231 ⟨by decide, by decide⟩ rfl (Nat.le_of_ble_eq_true rfl) (T7_hasState M5 (mR M5 a0 10) a2) (fun r16 M16 _ => ?_)
    refine X_if_ne (t := 24) d19 rfl (fun h19 => ?_) (fun h19 => ?_)
    · refine X_iconst k_i_m1 d22 ?_
      exact X_ireturn d23 rfl rfl
    · refine X_aloadn 0 d24 rfl ?_
      refine X_iloadn 1 d25 rfl ?_
      refine X_cVv (as := [vi a1]) d26 cv_x11_307 ⟨by decide, by decide⟩ rfl (Nat.le_of_ble_eq_true rfl) (T11_settleMachine M16 a0 a1) (fun M26 _ => ?_)
      refine X_aloadn 0 d29 rfl ?_
      refine X_getR d30 fg_x11_83 ?_
      refine X_iloadn 1 d33 rfl ?_
      refine X_iloadn 2 d34 rfl ?_
      refine X_cVi (as := [vi a1, vi a2]) d35 cv_x11_335 ⟨by decide, by decide⟩ rfl (Nat.le_of_ble_eq_true rfl) (T5_startAlike M26 (mR M26 a0 9) a1 a2) (fun r35 M35 _ => ?_)
      refine X_if_eq (t := 45) d38 rfl (fun h38 => ?_) (fun h38 => ?_)
      · refine X_iconst k_i_0 d45 ?_
        exact X_ireturn d46 rfl rfl
      · refine X_iconst k_i_1 d41 ?_
        refine X_goto (t := 46) d42 rfl ?_
        exact X_ireturn d46 rfl rfl

theorem dd11_shortest : AllD (ib i11_shortest) [(0, .aload_n 0, 1), (1, .getfield 19, 3), (4, .iload_n 1, 1), (5, .invokevirtual 231, 3), (8, .ifCond .ne 5, 3), (11, .iconst (-1), 1), (12, .ireturn, 1), (13, .aload_n 0, 1), (14, .iload_n 1, 1), (15, .invokevirtual 307, 3), (18, .aload_n 0, 1), (19, .getfield 83, 3), (22, .invokevirtual 326, 3), (25, .istore_n 3, 1), (26, .iload_n 3, 1), (27, .iconst (-1), 1), (28, .if_icmp .ne 5, 3), (31, .iconst (-1), 1), (32, .ireturn, 1), (33, .aload_n 0, 1), (34, .getfield 83, 3), (37, .iload_n 3, 1), (38, .invokevirtual 329, 3), (41, .istore 4, 2), (43, .iload_n 2, 1), (44, .iconst (-1), 1), (45, .if_icmp .ne 6, 3), (48, .iload 4, 2), (50, .ireturn, 1), (51, .iload_n 2, 1), (52, .ifCond .lt 26, 3), (55, .iload_n 2, 1), (56, .iload 4, 2), (58, .if_icmp .ge 20, 3), (61, .aload_n 0, 1), (62, .getfield 83, 3), (65, .iload_n 3, 1), (66, .iload 4, 2), (68, .iconst 1, 1), (69, .isub, 1), (70, .iload_n 2, 1), (71, .isub, 1), (72, .invokevirtual 332, 3), (75, .goto 4, 3), (78, .iconst (-1), 1), (79, .ireturn, 1)] := allD_of (by decide +kernel)
def f11_shortest (M : MM) (a0 : Nat) (a1 : Int32) (a2 : Int32) : Option (Int32 × MM) :=
  aO M a0 11 <|
  aO M (mR M a0 10) 7 <|
  cI (f7_hasState M (mR M a0 10) a1) fun r5 M5 =>
  if r5 = 0 then
    some ((-1 : Int32), M5)
  else
    aO M5 a0 11 <|
    cV (f11_settleMachine M5 a0 a1) fun M15 =>
    aO M15 a0 11 <|
    aO M15 (mR M15 a0 9) 5 <|
    cI (f5_firstGoodNode M15 (mR M15 a0 9)) fun r22 M22 =>
    if r22 = (-1 : Int32) then
      some ((-1 : Int32), M22)
    else
      aO M22 a0 11 <|
      aO M22 (mR M22 a0 9) 5 <|
      cI (f5_depthOf M22 (mR M22 a0 9) r22) fun r38 M38 =>
      if a2 = (-1 : Int32) then
        some (r38, M38)
      else
        if a2 < 0 then
          some ((-1 : Int32), M38)
        else
          if r38 ≤ a2 then
            some ((-1 : Int32), M38)
          else
            aO M38 a0 11 <|
            aO M38 (mR M38 a0 9) 5 <|
            cI (f5_signOnTheWay M38 (mR M38 a0 9) r22 ((r38 - (1 : Int32)) - a2)) fun r72 M72 =>
            some (r72, M72)
set_option maxRecDepth 4000 in
theorem T11_shortest (M : MM) (a0 : Nat) (a1 : Int32) (a2 : Int32) : ∀ q, f11_shortest M a0 a1 a2 = some q → Run i11_shortest [vr a0, vi a1, vi a2] M (Li q) := by
  obtain ⟨d0, d1, d4, d5, d8, d11, d12, d13, d14, d15, d18, d19, d22, d25, d26, d27, d28, d31, d32, d33, d34, d37, d38, d41, d43, d44, d45, d48, d50, d51, d52, d55, d56, d58, d61, d62, d65, d66, d68, d69, d70, d71, d72, d75, d78, d79, -⟩ := dd11_shortest
  refine Run_of_X (by decide) (Nat.le_of_ble_eq_true rfl) ?_
  show X Li i11_shortest 0 [(0, vr a0), (1, vi a1), (2, vi a2)] [] M _
  unfold f11_shortest
  refine X_aloadn 0 d0 rfl ?_
  refine X_getR d1 fg_x11_19 ?_
  refine X_iloadn 1 d4 rfl ?_
  refine X_cVi (as := [vi a1]) d5 cv_x11_231 ⟨by decide, by decide⟩ rfl (Nat.le_of_ble_eq_true rfl) (T7_hasState M (mR M a0 10) a1) (fun r5 M5 _ => ?_)
  refine X_if_ne (t := 13) d8 rfl (fun h8 => ?_) (fun h8 => ?_)
  · refine X_iconst k_i_m1 d11 ?_
    exact X_ireturn d12 rfl rfl
  · refine X_aloadn 0 d13 rfl ?_
    refine X_iloadn 1 d14 rfl ?_
    refine X_cVv (as := [vi a1]) d15 cv_x11_307 ⟨by decide, by decide⟩ rfl (Nat.le_of_ble_eq_true rfl) (T11_settleMachine M5 a0 a1) (fun M15 _ => ?_)
    refine X_aloadn 0 d18 rfl ?_
    refine X_getR d19 fg_x11_83 ?_
    refine X_cVi (as := []) d22 cv_x11_326 ⟨by decide, by decide⟩ rfl (Nat.le_of_ble_eq_true rfl) (T5_firstGoodNode M15 (mR M15 a0 9)) (fun r22 M22 _ => ?_)
    refine X_istoren (lv' := [(3, vi r22), (0, vr a0), (1, vi a1), (2, vi a2)]) d25 (by decide) rfl ?_
    refine X_iloadn 0 d26 rfl ?_
    refine X_iconst k_i_m1 d27 ?_
    refine X_icmp_ne (t := 33) d28 rfl (fun h28 => ?_) (fun h28 => ?_)
    · refine X_iconst k_i_m1 d31 ?_
      exact X_ireturn d32 rfl rfl
    · refine X_aloadn 1 d33 rfl ?_
      refine X_getR d34 fg_x11_83 ?_
      refine X_iloadn 0 d37 rfl ?_
      refine X_cVi (as := [vi r22]) d38 cv_x11_329 ⟨by decide, by decide⟩ rfl (Nat.le_of_ble_eq_true rfl) (T5_depthOf M22 (mR M22 a0 9) r22) (fun r38 M38 _ => ?_)
      refine X_istore (lv' := [(4, vi r38), (3, vi r22), (0, vr a0), (1, vi a1), (2, vi a2)]) d41 (by decide) rfl ?_
      refine X_iloadn 4 d43 rfl ?_
      refine X_iconst k_i_m1 d44 ?_
      refine X_icmp_ne (t := 51) d45 rfl (fun h45 => ?_) (fun h45 => ?_)
      · refine X_iload 0 d48 rfl ?_
        exact X_ireturn d50 rfl rfl
      · refine X_iloadn 4 d51 rfl ?_
        refine X_if_lt (t := 78) d52 rfl (fun h52 => ?_) (fun h52 => ?_)
        · refine X_iconst k_i_m1 d78 ?_
          exact X_ireturn d79 rfl rfl
        · refine X_iloadn 4 d55 rfl ?_
          refine X_iload 0 d56 rfl ?_
          refine X_icmp_ge (t := 78) d58 rfl (fun h58 => ?_) (fun h58 => ?_)
          · refine X_iconst k_i_m1 d78 ?_
            exact X_ireturn d79 rfl rfl
          · refine X_aloadn 2 d61 rfl ?_
            refine X_getR d62 fg_x11_83 ?_
            refine X_iloadn 1 d65 rfl ?_
            refine X_iload 0 d66 rfl ?_
            refine X_iconst k_i_1 d68 ?_
            refine X_isub d69 ?_
            refine X_iloadn 4 d70 rfl ?_
            refine X_isub d71 ?_
            refine X_cVi (as := [vi r22, vi ((r38 - (1 : Int32)) - a2)]) d72 cv_x11_332 ⟨by decide, by decide⟩ rfl (Nat.le_of_ble_eq_true rfl) (T5_signOnTheWay M38 (mR M38 a0 9) r22 ((r38 - (1 : Int32)) - a2)) (fun r72 M72 _ => ?_)
            refine X_goto (t := 79) d75 rfl ?_
            exact X_ireturn d79 rfl rfl

theorem dd11_stacks : AllD (ib i11_stacks) [(0, .aload_n 0, 1), (1, .getfield 19, 3), (4, .iload_n 1, 1), (5, .invokevirtual 231, 3), (8, .ifCond .eq 13, 3), (11, .iload_n 2, 1), (12, .ifCond .lt 9, 3), (15, .iload_n 2, 1), (16, .bipush 12, 2), (18, .if_icmp .le 7, 3), (21, .ldc2_w 206, 3), (24, .lreturn, 1), (25, .aload_n 0, 1), (26, .iload_n 1, 1), (27, .invokevirtual 307, 3), (30, .aload_n 0, 1), (31, .getfield 83, 3), (34, .iload_n 2, 1), (35, .invokevirtual 322, 3), (38, .lreturn, 1)] := allD_of (by decide +kernel)
def f11_stacks (M : MM) (a0 : Nat) (a1 : Int32) (a2 : Int32) : Option (Int64 × MM) :=
  aO M a0 11 <|
  aO M (mR M a0 10) 7 <|
  cI (f7_hasState M (mR M a0 10) a1) fun r5 M5 =>
  if r5 = 0 then
    some ((-1 : Int64), M5)
  else
    if a2 < 0 then
      some ((-1 : Int64), M5)
    else
      if a2 ≤ (12 : Int32) then
        aO M5 a0 11 <|
        cV (f11_settleMachine M5 a0 a1) fun M27 =>
        aO M27 a0 11 <|
        aO M27 (mR M27 a0 9) 5 <|
        cJ (f5_countWords M27 (mR M27 a0 9) a2) fun r35 M35 =>
        some (r35, M35)
      else
        some ((-1 : Int64), M5)
set_option maxRecDepth 4000 in
theorem T11_stacks (M : MM) (a0 : Nat) (a1 : Int32) (a2 : Int32) : ∀ q, f11_stacks M a0 a1 a2 = some q → Run i11_stacks [vr a0, vi a1, vi a2] M (Ll q) := by
  obtain ⟨d0, d1, d4, d5, d8, d11, d12, d15, d16, d18, d21, d24, d25, d26, d27, d30, d31, d34, d35, d38, -⟩ := dd11_stacks
  refine Run_of_X (by decide) (Nat.le_of_ble_eq_true rfl) ?_
  show X Ll i11_stacks 0 [(0, vr a0), (1, vi a1), (2, vi a2)] [] M _
  unfold f11_stacks
  refine X_aloadn 0 d0 rfl ?_
  refine X_getR d1 fg_x11_19 ?_
  refine X_iloadn 1 d4 rfl ?_
  refine X_cVi (as := [vi a1]) d5 cv_x11_231 ⟨by decide, by decide⟩ rfl (Nat.le_of_ble_eq_true rfl) (T7_hasState M (mR M a0 10) a1) (fun r5 M5 _ => ?_)
  refine X_if_eq (t := 21) d8 rfl (fun h8 => ?_) (fun h8 => ?_)
  · refine X_ldc2 kc_x11_206 d21 ?_
    exact X_lreturn d24 rfl rfl
  · refine X_iloadn 2 d11 rfl ?_
    refine X_if_lt (t := 21) d12 rfl (fun h12 => ?_) (fun h12 => ?_)
    · refine X_ldc2 kc_x11_206 d21 ?_
      exact X_lreturn d24 rfl rfl
    · refine X_iloadn 2 d15 rfl ?_
      refine X_bipush k_b_12 d16 ?_
      refine X_icmp_le (t := 25) d18 rfl (fun h18 => ?_) (fun h18 => ?_)
      · refine X_aloadn 0 d25 rfl ?_
        refine X_iloadn 1 d26 rfl ?_
        refine X_cVv (as := [vi a1]) d27 cv_x11_307 ⟨by decide, by decide⟩ rfl (Nat.le_of_ble_eq_true rfl) (T11_settleMachine M5 a0 a1) (fun M27 _ => ?_)
        refine X_aloadn 0 d30 rfl ?_
        refine X_getR d31 fg_x11_83 ?_
        refine X_iloadn 2 d34 rfl ?_
        refine X_cVl (as := [vi a2]) d35 cv_x11_322 ⟨by decide, by decide⟩ rfl (Nat.le_of_ble_eq_true rfl) (T5_countWords M27 (mR M27 a0 9) a2) (fun r35 M35 _ => ?_)
        exact X_lreturn d38 rfl rfl
      · refine X_ldc2 kc_x11_206 d21 ?_
        exact X_lreturn d24 rfl rfl

theorem dd11_step : AllD (ib i11_step) [(0, .aload_n 0, 1), (1, .iload_n 1, 1), (2, .invokevirtual 182, 3), (5, .ifCond .ne 5, 3), (8, .iconst (-1), 1), (9, .ireturn, 1), (10, .aload_n 0, 1), (11, .getfield 50, 3), (14, .aload_n 0, 1), (15, .getfield 40, 3), (18, .aload_n 0, 1), (19, .getfield 87, 3), (22, .invokevirtual 157, 3), (25, .aload_n 0, 1), (26, .getfield 40, 3), (29, .aload_n 0, 1), (30, .getfield 19, 3), (33, .iload_n 1, 1), (34, .invokevirtual 185, 3), (37, .aload_n 0, 1), (38, .getfield 40, 3), (41, .getfield 165, 3), (44, .ireturn, 1)] := allD_of (by decide +kernel)
def f11_step (M : MM) (a0 : Nat) (a1 : Int32) : Option (Int32 × MM) :=
  aO M a0 11 <|
  cI (f11_canStep M a0 a1) fun r2 M2 =>
  if r2 = 0 then
    some ((-1 : Int32), M2)
  else
    aO M2 a0 11 <|
    aO M2 a0 11 <|
    aO M2 a0 11 <|
    aO M2 (mR M2 a0 4) 0 <|
    cV (f0_keep M2 (mR M2 a0 4) (mR M2 a0 2) (mI M2 a0 12)) fun M22 =>
    aO M22 a0 11 <|
    aO M22 a0 11 <|
    aO M22 (mR M22 a0 2) 6 <|
    cV (f6_stepBy M22 (mR M22 a0 2) (mR M22 a0 10) a1) fun M34 =>
    aO M34 a0 11 <|
    aO M34 (mR M34 a0 2) 6 <|
    some (mI M34 (mR M34 a0 2) 3, M34)
set_option maxRecDepth 4000 in
theorem T11_step (M : MM) (a0 : Nat) (a1 : Int32) : ∀ q, f11_step M a0 a1 = some q → Run i11_step [vr a0, vi a1] M (Li q) := by
  obtain ⟨d0, d1, d2, d5, d8, d9, d10, d11, d14, d15, d18, d19, d22, d25, d26, d29, d30, d33, d34, d37, d38, d41, d44, -⟩ := dd11_step
  refine Run_of_X (by decide) (Nat.le_of_ble_eq_true rfl) ?_
  show X Li i11_step 0 [(0, vr a0), (1, vi a1)] [] M _
  unfold f11_step
  refine X_aloadn 0 d0 rfl ?_
  refine X_iloadn 1 d1 rfl ?_
  refine X_cVi (as := [vi a1]) d2 cv_x11_182 ⟨by decide, by decide⟩ rfl (Nat.le_of_ble_eq_true rfl) (T11_canStep M a0 a1) (fun r2 M2 _ => ?_)
  refine X_if_ne (t := 10) d5 rfl (fun h5 => ?_) (fun h5 => ?_)
  · refine X_iconst k_i_m1 d8 ?_
    exact X_ireturn d9 rfl rfl
  · refine X_aloadn 0 d10 rfl ?_
    refine X_getR d11 fg_x11_50 ?_
    refine X_aloadn 0 d14 rfl ?_
    refine X_getR d15 fg_x11_40 ?_
    refine X_aloadn 0 d18 rfl ?_
    refine X_getI d19 fg_x11_87 ?_
    refine X_cVv (as := [vr (mR M2 a0 2), vi (mI M2 a0 12)]) d22 cv_x11_157 ⟨by decide, by decide⟩ rfl (Nat.le_of_ble_eq_true rfl) (T0_keep M2 (mR M2 a0 4) (mR M2 a0 2) (mI M2 a0 12)) (fun M22 _ => ?_)
    refine X_aloadn 0 d25 rfl ?_
    refine X_getR d26 fg_x11_40 ?_
    refine X_aloadn 0 d29 rfl ?_
    refine X_getR d30 fg_x11_19 ?_
    refine X_iloadn 1 d33 rfl ?_
    refine X_cVv (as := [vr (mR M22 a0 10), vi a1]) d34 cv_x11_185 ⟨by decide, by decide⟩ rfl (Nat.le_of_ble_eq_true rfl) (T6_stepBy M22 (mR M22 a0 2) (mR M22 a0 10) a1) (fun M34 _ => ?_)
    refine X_aloadn 0 d37 rfl ?_
    refine X_getR d38 fg_x11_40 ?_
    refine X_getI d41 fg_x11_165 ?_
    exact X_ireturn d44 rfl rfl

theorem dd11_stuck_b79 : AllD (ib i11_stuck) [(79, .iinc 2 1, 3), (82, .goto (-39), 3)] := allD_of (by decide +kernel)
def f11_stuck_b79 (K43 : MM → Nat → Int32 → Int32 → Option (Int64 × MM)) (M : MM) (a0 : Nat) (a1 : Int32) (a2 : Int32) : Option (Int64 × MM) :=
  K43 M a0 a1 (a2 + (1 : Int32))
set_option maxRecDepth 4000 in
theorem T11_stuck_b79 {K43 : MM → Nat → Int32 → Int32 → Option (Int64 × MM)} (hK43 : ∀ (M : MM) (a0 : Nat) (a1 : Int32) (a2 : Int32), X Ll i11_stuck 43 [(0, vr a0), (1, vi a1), (2, vi a2)] [] M (K43 M a0 a1 a2)) : ∀ (M : MM) (a0 : Nat) (a1 : Int32) (a2 : Int32), X Ll i11_stuck 79 [(0, vr a0), (1, vi a1), (2, vi a2)] [] M (f11_stuck_b79 K43 M a0 a1 a2) := by
  obtain ⟨d79, d82, -⟩ := dd11_stuck_b79
  intro M a0 a1 a2
  unfold f11_stuck_b79
  refine X_inc (lv' := [(2, vi (a2 + (1 : Int32))), (0, vr a0), (1, vi a1)]) 2 d79 k_i_1 rfl (by decide) rfl ?_
  refine X_goto (t := 43) d82 rfl ?_
  refine X_sub [1, 2, 0] rfl ?_
  exact hK43 M a0 a1 (a2 + (1 : Int32))

theorem dd11_stuck_b43 : AllD (ib i11_stuck) [(43, .iload_n 2, 1), (44, .aload_n 0, 1), (45, .getfield 19, 3), (48, .getfield 130, 3), (51, .if_icmp .ge 34, 3), (54, .aload_n 0, 1), (55, .getfield 19, 3), (58, .iload_n 1, 1), (59, .iload_n 2, 1), (60, .aload_n 0, 1), (61, .getfield 87, 3), (64, .invokevirtual 303, 3), (67, .ifCond .ne 12, 3), (70, .aload_n 0, 1), (71, .getfield 61, 3), (74, .iload_n 1, 1), (75, .iload_n 2, 1), (76, .invokevirtual 270, 3), (85, .iinc 1 1, 3), (88, .goto (-58), 3)] := allD_of (by decide +kernel)
def f11_stuck_b43_body (K30 : MM → Nat → Int32 → Option (Int64 × MM)) (rc : MM → Nat → Int32 → Int32 → Option (Int64 × MM)) (M : MM) (a0 : Nat) (a1 : Int32) (a2 : Int32) : Option (Int64 × MM) :=
  aO M a0 11 <|
  aO M (mR M a0 10) 7 <|
  if (mI M (mR M a0 10) 5) ≤ a2 then
    K30 M a0 (a1 + (1 : Int32))
  else
    aO M a0 11 <|
    aO M a0 11 <|
    aO M (mR M a0 10) 7 <|
    cI (f7_hasRuleFor M (mR M a0 10) a1 a2 (mI M a0 12)) fun r64 M64 =>
    if r64 = 0 then
      aO M64 a0 11 <|
      aO M64 (mR M64 a0 6) 1 <|
      cV (f1_aimAtHead M64 (mR M64 a0 6) a1 a2) fun M76 =>
      (f11_stuck_b79 rc) M76 a0 a1 a2
    else
      (f11_stuck_b79 rc) M64 a0 a1 a2
def f11_stuck_b43 (K30 : MM → Nat → Int32 → Option (Int64 × MM)) : MM → Nat → Int32 → Int32 → Option (Int64 × MM) := LP4 (f11_stuck_b43_body K30) FU
set_option maxRecDepth 4000 in
theorem T11_stuck_b43 {K30 : MM → Nat → Int32 → Option (Int64 × MM)} (hK30 : ∀ (M : MM) (a0 : Nat) (a1 : Int32), X Ll i11_stuck 30 [(0, vr a0), (1, vi a1)] [] M (K30 M a0 a1)) : ∀ (M : MM) (a0 : Nat) (a1 : Int32) (a2 : Int32), X Ll i11_stuck 43 [(0, vr a0), (1, vi a1), (2, vi a2)] [] M (f11_stuck_b43 K30 M a0 a1 a2) := by
  obtain ⟨d43, d44, d45, d48, d51, d54, d55, d58, d59, d60, d61, d64, d67, d70, d71, d74, d75, d76, d85, d88, -⟩ := dd11_stuck_b43
  refine LP4_i (P := fun M a0 a1 a2 o => X Ll i11_stuck 43 [(0, vr a0), (1, vi a1), (2, vi a2)] [] M o) (fun _ _ _ _ => X_none) (fun rc ih M a0 a1 a2 => ?_) FU
  unfold f11_stuck_b43_body
  refine X_iloadn 2 d43 rfl ?_
  refine X_aloadn 0 d44 rfl ?_
  refine X_getR d45 fg_x11_19 ?_
  refine X_getI d48 fg_x11_130 ?_
  refine X_icmp_ge (t := 85) d51 rfl (fun h51 => ?_) (fun h51 => ?_)
  · refine X_inc (lv' := [(1, vi (a1 + (1 : Int32))), (0, vr a0), (2, vi a2)]) 1 d85 k_i_1 rfl (by decide) rfl ?_
    refine X_goto (t := 30) d88 rfl ?_
    refine X_sub [1, 0] rfl ?_
    exact hK30 M a0 (a1 + (1 : Int32))
  · refine X_aloadn 0 d54 rfl ?_
    refine X_getR d55 fg_x11_19 ?_
    refine X_iloadn 1 d58 rfl ?_
    refine X_iloadn 2 d59 rfl ?_
    refine X_aloadn 0 d60 rfl ?_
    refine X_getI d61 fg_x11_87 ?_
    refine X_cVi (as := [vi a1, vi a2, vi (mI M a0 12)]) d64 cv_x11_303 ⟨by decide, by decide⟩ rfl (Nat.le_of_ble_eq_true rfl) (T7_hasRuleFor M (mR M a0 10) a1 a2 (mI M a0 12)) (fun r64 M64 _ => ?_)
    refine X_if_ne (t := 79) d67 rfl (fun h67 => ?_) (fun h67 => ?_)
    · refine X_aloadn 0 d70 rfl ?_
      refine X_getR d71 fg_x11_61 ?_
      refine X_iloadn 1 d74 rfl ?_
      refine X_iloadn 2 d75 rfl ?_
      refine X_cVv (as := [vi a1, vi a2]) d76 cv_x11_270 ⟨by decide, by decide⟩ rfl (Nat.le_of_ble_eq_true rfl) (T1_aimAtHead M64 (mR M64 a0 6) a1 a2) (fun M76 _ => ?_)
      exact (T11_stuck_b79 ih) M76 a0 a1 a2
    · exact (T11_stuck_b79 ih) M64 a0 a1 a2

theorem dd11_stuck_b30 : AllD (ib i11_stuck) [(30, .iload_n 1, 1), (31, .aload_n 0, 1), (32, .getfield 19, 3), (35, .getfield 127, 3), (38, .if_icmp .ge 53, 3), (41, .iconst 0, 1), (42, .istore_n 2, 1), (91, .aload_n 0, 1), (92, .getfield 61, 3), (95, .aload_n 0, 1), (96, .getfield 19, 3), (99, .aload_n 0, 1), (100, .getfield 87, 3), (103, .invokevirtual 257, 3), (106, .aload_n 0, 1), (107, .getfield 61, 3), (110, .aload_n 0, 1), (111, .getfield 40, 3), (114, .invokevirtual 260, 3), (117, .invokestatic 212, 3), (120, .lreturn, 1)] := allD_of (by decide +kernel)
def f11_stuck_b30_body (rc : MM → Nat → Int32 → Option (Int64 × MM)) (M : MM) (a0 : Nat) (a1 : Int32) : Option (Int64 × MM) :=
  aO M a0 11 <|
  aO M (mR M a0 10) 7 <|
  if (mI M (mR M a0 10) 4) ≤ a1 then
    aO M a0 11 <|
    aO M a0 11 <|
    aO M a0 11 <|
    aO M (mR M a0 6) 1 <|
    cV (f1_saturate M (mR M a0 6) (mR M a0 10) (mI M a0 12)) fun M103 =>
    aO M103 a0 11 <|
    aO M103 a0 11 <|
    aO M103 (mR M103 a0 6) 1 <|
    cJ (f1_of M103 (mR M103 a0 6) (mR M103 a0 2)) fun r114 M114 =>
    cJ (f11_told M114 r114) fun r117 M117 =>
    some (r117, M117)
  else
    (f11_stuck_b43 rc) M a0 a1 (0 : Int32)
def f11_stuck_b30 : MM → Nat → Int32 → Option (Int64 × MM) := LP3 (f11_stuck_b30_body) FU
set_option maxRecDepth 4000 in
theorem T11_stuck_b30 : ∀ (M : MM) (a0 : Nat) (a1 : Int32), X Ll i11_stuck 30 [(0, vr a0), (1, vi a1)] [] M (f11_stuck_b30 M a0 a1) := by
  obtain ⟨d30, d31, d32, d35, d38, d41, d42, d91, d92, d95, d96, d99, d100, d103, d106, d107, d110, d111, d114, d117, d120, -⟩ := dd11_stuck_b30
  refine LP3_i (P := fun M a0 a1 o => X Ll i11_stuck 30 [(0, vr a0), (1, vi a1)] [] M o) (fun _ _ _ => X_none) (fun rc ih M a0 a1 => ?_) FU
  unfold f11_stuck_b30_body
  refine X_iloadn 1 d30 rfl ?_
  refine X_aloadn 0 d31 rfl ?_
  refine X_getR d32 fg_x11_19 ?_
  refine X_getI d35 fg_x11_127 ?_
  refine X_icmp_ge (t := 91) d38 rfl (fun h38 => ?_) (fun h38 => ?_)
  · refine X_aloadn 0 d91 rfl ?_
    refine X_getR d92 fg_x11_61 ?_
    refine X_aloadn 0 d95 rfl ?_
    refine X_getR d96 fg_x11_19 ?_
    refine X_aloadn 0 d99 rfl ?_
    refine X_getI d100 fg_x11_87 ?_
    refine X_cVv (as := [vr (mR M a0 10), vi (mI M a0 12)]) d103 cv_x11_257 ⟨by decide, by decide⟩ rfl (Nat.le_of_ble_eq_true rfl) (T1_saturate M (mR M a0 6) (mR M a0 10) (mI M a0 12)) (fun M103 _ => ?_)
    refine X_aloadn 0 d106 rfl ?_
    refine X_getR d107 fg_x11_61 ?_
    refine X_aloadn 0 d110 rfl ?_
    refine X_getR d111 fg_x11_40 ?_
    refine X_cVl (as := [vr (mR M103 a0 2)]) d114 cv_x11_260 ⟨by decide, by decide⟩ rfl (Nat.le_of_ble_eq_true rfl) (T1_of M103 (mR M103 a0 6) (mR M103 a0 2)) (fun r114 M114 _ => ?_)
    refine X_cSl (as := [vl r114]) d117 cs_x11_212 ⟨by decide, by decide⟩ rfl (Nat.le_of_ble_eq_true rfl) (T11_told M114 r114) (fun r117 M117 _ => ?_)
    exact X_lreturn d120 rfl rfl
  · refine X_iconst k_i_0 d41 ?_
    refine X_istoren (lv' := [(2, vi (0 : Int32)), (0, vr a0), (1, vi a1)]) d42 (by decide) rfl ?_
    refine X_sub [1, 2, 0] rfl ?_
    exact (T11_stuck_b43 ih) M a0 a1 (0 : Int32)

theorem dd11_stuck : AllD (ib i11_stuck) [(0, .aload_n 0, 1), (1, .getfield 40, 3), (4, .invokevirtual 168, 3), (7, .ifCond .eq 7, 3), (10, .ldc2_w 206, 3), (13, .lreturn, 1), (14, .aload_n 0, 1), (15, .getfield 61, 3), (18, .aload_n 0, 1), (19, .getfield 19, 3), (22, .getfield 130, 3), (25, .invokevirtual 264, 3), (28, .iconst 0, 1), (29, .istore_n 1, 1)] := allD_of (by decide +kernel)
def f11_stuck (M : MM) (a0 : Nat) : Option (Int64 × MM) :=
  aO M a0 11 <|
  aO M (mR M a0 2) 6 <|
  cI (f6_isNone M (mR M a0 2)) fun r4 M4 =>
  if r4 = 0 then
    aO M4 a0 11 <|
    aO M4 a0 11 <|
    aO M4 (mR M4 a0 10) 7 <|
    aO M4 (mR M4 a0 6) 1 <|
    cV (f1_start M4 (mR M4 a0 6) (mI M4 (mR M4 a0 10) 5)) fun M25 =>
    f11_stuck_b30 M25 a0 (0 : Int32)
  else
    some ((-1 : Int64), M4)
set_option maxRecDepth 4000 in
theorem T11_stuck (M : MM) (a0 : Nat) : ∀ q, f11_stuck M a0 = some q → Run i11_stuck [vr a0] M (Ll q) := by
  obtain ⟨d0, d1, d4, d7, d10, d13, d14, d15, d18, d19, d22, d25, d28, d29, -⟩ := dd11_stuck
  refine Run_of_X (by decide) (Nat.le_of_ble_eq_true rfl) ?_
  show X Ll i11_stuck 0 [(0, vr a0)] [] M _
  unfold f11_stuck
  refine X_aloadn 0 d0 rfl ?_
  refine X_getR d1 fg_x11_40 ?_
  refine X_cVi (as := []) d4 cv_x11_168 ⟨by decide, by decide⟩ rfl (Nat.le_of_ble_eq_true rfl) (T6_isNone M (mR M a0 2)) (fun r4 M4 _ => ?_)
  refine X_if_eq (t := 14) d7 rfl (fun h7 => ?_) (fun h7 => ?_)
  · refine X_aloadn 0 d14 rfl ?_
    refine X_getR d15 fg_x11_61 ?_
    refine X_aloadn 0 d18 rfl ?_
    refine X_getR d19 fg_x11_19 ?_
    refine X_getI d22 fg_x11_130 ?_
    refine X_cVv (as := [vi (mI M4 (mR M4 a0 10) 5)]) d25 cv_x11_264 ⟨by decide, by decide⟩ rfl (Nat.le_of_ble_eq_true rfl) (T1_start M4 (mR M4 a0 6) (mI M4 (mR M4 a0 10) 5)) (fun M25 _ => ?_)
    refine X_iconst k_i_0 d28 ?_
    refine X_istoren (lv' := [(1, vi (0 : Int32)), (0, vr a0)]) d29 (by decide) rfl ?_
    refine X_sub [1, 0] rfl ?_
    exact T11_stuck_b30 M25 a0 (0 : Int32)
  · refine X_ldc2 kc_x11_206 d10 ?_
    exact X_lreturn d13 rfl rfl

theorem dd11_system : AllD (ib i11_system) [(0, .aload_n 0, 1), (1, .getfield 31, 3), (4, .aload_n 0, 1), (5, .getfield 23, 3), (8, .invokevirtual 107, 3), (11, .istore_n 1, 1), (12, .aload_n 0, 1), (13, .getfield 12, 3), (16, .iconst 0, 1), (17, .invokevirtual 104, 3), (20, .iload_n 1, 1), (21, .ifCond .ne 5, 3), (24, .iconst (-1), 1), (25, .ireturn, 1), (26, .aload_n 0, 1), (27, .getfield 19, 3), (30, .astore_n 2, 1), (31, .aload_n 0, 1), (32, .aload_n 0, 1), (33, .getfield 23, 3), (36, .putfield 19, 3), (39, .aload_n 0, 1), (40, .aload_n 2, 1), (41, .putfield 23, 3), (44, .aload_n 0, 1), (45, .getfield 40, 3), (48, .invokevirtual 111, 3), (51, .aload_n 0, 1), (52, .getfield 50, 3), (55, .invokevirtual 114, 3), (58, .aload_n 0, 1), (59, .iconst 0, 1), (60, .invokevirtual 115, 3), (63, .aload_n 0, 1), (64, .getfield 19, 3), (67, .getfield 118, 3), (70, .ireturn, 1)] := allD_of (by decide +kernel)
def f11_system (M : MM) (a0 : Nat) : Option (Int32 × MM) :=
  aO M a0 11 <|
  aO M a0 11 <|
  aO M (mR M a0 1) 8 <|
  cI (f8_readsProgram M (mR M a0 1) (mR M a0 11)) fun r8 M8 =>
  aO M8 a0 11 <|
  aO M8 (mR M8 a0 0) 9 <|
  cV (f9_cut M8 (mR M8 a0 0) (0 : Int32)) fun M17 =>
  if r8 = 0 then
    some ((-1 : Int32), M17)
  else
    aO M17 a0 11 <|
    bW (mR M17 a0 10) fun v30 =>
    aO M17 a0 11 <|
    aO M17 a0 11 <|
    bM (sR M17 a0 10 (mR M17 a0 11)) fun M36 =>
    aO M36 a0 11 <|
    bM (sR M36 a0 11 v30) fun M41 =>
    aO M41 a0 11 <|
    aO M41 (mR M41 a0 2) 6 <|
    cV (f6_forget M41 (mR M41 a0 2)) fun M48 =>
    aO M48 a0 11 <|
    aO M48 (mR M48 a0 4) 0 <|
    cV (f0_forget M48 (mR M48 a0 4)) fun M55 =>
    aO M55 a0 11 <|
    cV (f11_putOut M55 a0 (0 : Int32)) fun M60 =>
    aO M60 a0 11 <|
    aO M60 (mR M60 a0 10) 7 <|
    some (mI M60 (mR M60 a0 10) 6, M60)
set_option maxRecDepth 4000 in
theorem T11_system (M : MM) (a0 : Nat) : ∀ q, f11_system M a0 = some q → Run i11_system [vr a0] M (Li q) := by
  obtain ⟨d0, d1, d4, d5, d8, d11, d12, d13, d16, d17, d20, d21, d24, d25, d26, d27, d30, d31, d32, d33, d36, d39, d40, d41, d44, d45, d48, d51, d52, d55, d58, d59, d60, d63, d64, d67, d70, -⟩ := dd11_system
  refine Run_of_X (by decide) (Nat.le_of_ble_eq_true rfl) ?_
  show X Li i11_system 0 [(0, vr a0)] [] M _
  unfold f11_system
  refine X_aloadn 0 d0 rfl ?_
  refine X_getR d1 fg_x11_31 ?_
  refine X_aloadn 0 d4 rfl ?_
  refine X_getR d5 fg_x11_23 ?_
  refine X_cVi (as := [vr (mR M a0 11)]) d8 cv_x11_107 ⟨by decide, by decide⟩ rfl (Nat.le_of_ble_eq_true rfl) (T8_readsProgram M (mR M a0 1) (mR M a0 11)) (fun r8 M8 _ => ?_)
  refine X_istoren (lv' := [(1, vi r8), (0, vr a0)]) d11 (by decide) rfl ?_
  refine X_aloadn 1 d12 rfl ?_
  refine X_getR d13 fg_x11_12 ?_
  refine X_iconst k_i_0 d16 ?_
  refine X_cVv (as := [vi (0 : Int32)]) d17 cv_x11_104 ⟨by decide, by decide⟩ rfl (Nat.le_of_ble_eq_true rfl) (T9_cut M8 (mR M8 a0 0) (0 : Int32)) (fun M17 _ => ?_)
  refine X_iloadn 0 d20 rfl ?_
  refine X_if_ne (t := 26) d21 rfl (fun h21 => ?_) (fun h21 => ?_)
  · refine X_iconst k_i_m1 d24 ?_
    exact X_ireturn d25 rfl rfl
  · refine X_aloadn 1 d26 rfl ?_
    refine X_getR d27 fg_x11_19 ?_
    refine X_bWr fun v30 _ => ?_
    refine X_astoren (lv' := [(2, vr v30), (1, vi r8), (0, vr a0)]) d30 (by decide) rfl ?_
    refine X_aloadn 2 d31 rfl ?_
    refine X_aloadn 2 d32 rfl ?_
    refine X_getR d33 fg_x11_23 ?_
    refine X_putR d36 fp_x11_19 (RefT.obj _) ?_
    refine X_bM fun M36 _ => ?_
    refine X_aloadn 2 d39 rfl ?_
    refine X_aloadn 0 d40 rfl ?_
    refine X_putR d41 fp_x11_23 (RefT.obj _) ?_
    refine X_bM fun M41 _ => ?_
    refine X_aloadn 2 d44 rfl ?_
    refine X_getR d45 fg_x11_40 ?_
    refine X_cVv (as := []) d48 cv_x11_111 ⟨by decide, by decide⟩ rfl (Nat.le_of_ble_eq_true rfl) (T6_forget M41 (mR M41 a0 2)) (fun M48 _ => ?_)
    refine X_aloadn 2 d51 rfl ?_
    refine X_getR d52 fg_x11_50 ?_
    refine X_cVv (as := []) d55 cv_x11_114 ⟨by decide, by decide⟩ rfl (Nat.le_of_ble_eq_true rfl) (T0_forget M48 (mR M48 a0 4)) (fun M55 _ => ?_)
    refine X_aloadn 2 d58 rfl ?_
    refine X_iconst k_i_0 d59 ?_
    refine X_cVv (as := [vi (0 : Int32)]) d60 cv_x11_115 ⟨by decide, by decide⟩ rfl (Nat.le_of_ble_eq_true rfl) (T11_putOut M55 a0 (0 : Int32)) (fun M60 _ => ?_)
    refine X_aloadn 2 d63 rfl ?_
    refine X_getR d64 fg_x11_19 ?_
    refine X_getI d67 fg_x11_118 ?_
    exact X_ireturn d70 rfl rfl

theorem dd11_undo : AllD (ib i11_undo) [(0, .aload_n 0, 1), (1, .getfield 50, 3), (4, .getfield 136, 3), (7, .ifCond .ne 5, 3), (10, .iconst 0, 1), (11, .ireturn, 1), (12, .aload_n 0, 1), (13, .aload_n 0, 1), (14, .getfield 50, 3), (17, .aload_n 0, 1), (18, .getfield 40, 3), (21, .invokevirtual 202, 3), (24, .invokevirtual 115, 3), (27, .iconst 1, 1), (28, .ireturn, 1)] := allD_of (by decide +kernel)
def f11_undo (M : MM) (a0 : Nat) : Option (Int32 × MM) :=
  aO M a0 11 <|
  aO M (mR M a0 4) 0 <|
  if (mI M (mR M a0 4) 2) = 0 then
    some ((0 : Int32), M)
  else
    aO M a0 11 <|
    aO M a0 11 <|
    aO M (mR M a0 4) 0 <|
    cI (f0_takeBack M (mR M a0 4) (mR M a0 2)) fun r21 M21 =>
    aO M21 a0 11 <|
    cV (f11_putOut M21 a0 r21) fun M24 =>
    some ((1 : Int32), M24)
set_option maxRecDepth 4000 in
theorem T11_undo (M : MM) (a0 : Nat) : ∀ q, f11_undo M a0 = some q → Run i11_undo [vr a0] M (Li q) := by
  obtain ⟨d0, d1, d4, d7, d10, d11, d12, d13, d14, d17, d18, d21, d24, d27, d28, -⟩ := dd11_undo
  refine Run_of_X (by decide) (Nat.le_of_ble_eq_true rfl) ?_
  show X Li i11_undo 0 [(0, vr a0)] [] M _
  unfold f11_undo
  refine X_aloadn 0 d0 rfl ?_
  refine X_getR d1 fg_x11_50 ?_
  refine X_getI d4 fg_x11_136 ?_
  refine X_if_ne (t := 12) d7 rfl (fun h7 => ?_) (fun h7 => ?_)
  · refine X_iconst k_i_0 d10 ?_
    exact X_zreturnc d11 rfl (by decide) rfl
  · refine X_aloadn 0 d12 rfl ?_
    refine X_aloadn 0 d13 rfl ?_
    refine X_getR d14 fg_x11_50 ?_
    refine X_aloadn 0 d17 rfl ?_
    refine X_getR d18 fg_x11_40 ?_
    refine X_cVi (as := [vr (mR M a0 2)]) d21 cv_x11_202 ⟨by decide, by decide⟩ rfl (Nat.le_of_ble_eq_true rfl) (T0_takeBack M (mR M a0 4) (mR M a0 2)) (fun r21 M21 _ => ?_)
    refine X_cVv (as := [vi r21]) d24 cv_x11_115 ⟨by decide, by decide⟩ rfl (Nat.le_of_ble_eq_true rfl) (T11_putOut M21 a0 r21) (fun M24 _ => ?_)
    refine X_iconst k_i_1 d27 ?_
    exact X_zreturnc d28 rfl (by decide) rfl

theorem dd11_way : AllD (ib i11_way) [(0, .aload_n 0, 1), (1, .getfield 40, 3), (4, .invokevirtual 168, 3), (7, .ifCond .ne 14, 3), (10, .aload_n 0, 1), (11, .invokevirtual 208, 3), (14, .ldc2_w 216, 3), (17, .lcmp, 1), (18, .ifCond .lt 5, 3), (21, .iconst (-1), 1), (22, .ireturn, 1), (23, .aload_n 0, 1), (24, .getfield 67, 3), (27, .aload_n 0, 1), (28, .getfield 57, 3), (31, .aload_n 0, 1), (32, .getfield 19, 3), (35, .aload_n 0, 1), (36, .getfield 87, 3), (39, .aload_n 0, 1), (40, .getfield 40, 3), (43, .invokevirtual 218, 3), (46, .aload_n 0, 1), (47, .getfield 67, 3), (50, .getfield 222, 3), (53, .ifCond .eq 6, 3), (56, .bipush (-2), 2), (58, .ireturn, 1), (59, .iload_n 1, 1), (60, .iconst (-1), 1), (61, .if_icmp .ne 11, 3), (64, .aload_n 0, 1), (65, .getfield 67, 3), (68, .getfield 225, 3), (71, .ireturn, 1), (72, .iload_n 1, 1), (73, .ifCond .lt 25, 3), (76, .iload_n 1, 1), (77, .aload_n 0, 1), (78, .getfield 67, 3), (81, .getfield 225, 3), (84, .if_icmp .ge 14, 3), (87, .aload_n 0, 1), (88, .getfield 67, 3), (91, .iload_n 1, 1), (92, .invokevirtual 228, 3), (95, .goto 4, 3), (98, .iconst (-1), 1), (99, .ireturn, 1)] := allD_of (by decide +kernel)
def f11_way (M : MM) (a0 : Nat) (a1 : Int32) : Option (Int32 × MM) :=
  aO M a0 11 <|
  aO M (mR M a0 2) 6 <|
  cI (f6_isNone M (mR M a0 2)) fun r4 M4 =>
  if r4 = 0 then
    aO M4 a0 11 <|
    cJ (f11_costOfNow M4 a0) fun r11 M11 =>
    if r11 < (1000000000000001 : Int64) then
      aO M11 a0 11 <|
      aO M11 a0 11 <|
      aO M11 a0 11 <|
      aO M11 a0 11 <|
      aO M11 a0 11 <|
      aO M11 (mR M11 a0 7) 10 <|
      cV (f10_follow M11 (mR M11 a0 7) (mR M11 a0 5) (mR M11 a0 10) (mI M11 a0 12) (mR M11 a0 2)) fun M43 =>
      aO M43 a0 11 <|
      aO M43 (mR M43 a0 7) 10 <|
      if (mI M43 (mR M43 a0 7) 3) = 0 then
        if a1 = (-1 : Int32) then
          aO M43 a0 11 <|
          aO M43 (mR M43 a0 7) 10 <|
          some (mI M43 (mR M43 a0 7) 2, M43)
        else
          if a1 < 0 then
            some ((-1 : Int32), M43)
          else
            aO M43 a0 11 <|
            aO M43 (mR M43 a0 7) 10 <|
            if (mI M43 (mR M43 a0 7) 2) ≤ a1 then
              some ((-1 : Int32), M43)
            else
              aO M43 a0 11 <|
              aO M43 (mR M43 a0 7) 10 <|
              cI (f10_ruleAt M43 (mR M43 a0 7) a1) fun r92 M92 =>
              some (r92, M92)
      else
        some ((-2 : Int32), M43)
    else
      some ((-1 : Int32), M11)
  else
    some ((-1 : Int32), M4)
set_option maxRecDepth 4000 in
theorem T11_way (M : MM) (a0 : Nat) (a1 : Int32) : ∀ q, f11_way M a0 a1 = some q → Run i11_way [vr a0, vi a1] M (Li q) := by
  obtain ⟨d0, d1, d4, d7, d10, d11, d14, d17, d18, d21, d22, d23, d24, d27, d28, d31, d32, d35, d36, d39, d40, d43, d46, d47, d50, d53, d56, d58, d59, d60, d61, d64, d65, d68, d71, d72, d73, d76, d77, d78, d81, d84, d87, d88, d91, d92, d95, d98, d99, -⟩ := dd11_way
  refine Run_of_X (by decide) (Nat.le_of_ble_eq_true rfl) ?_
  show X Li i11_way 0 [(0, vr a0), (1, vi a1)] [] M _
  unfold f11_way
  refine X_aloadn 0 d0 rfl ?_
  refine X_getR d1 fg_x11_40 ?_
  refine X_cVi (as := []) d4 cv_x11_168 ⟨by decide, by decide⟩ rfl (Nat.le_of_ble_eq_true rfl) (T6_isNone M (mR M a0 2)) (fun r4 M4 _ => ?_)
  refine X_if_ne (t := 21) d7 rfl (fun h7 => ?_) (fun h7 => ?_)
  · refine X_aloadn 0 d10 rfl ?_
    refine X_cVl (as := []) d11 cv_x11_208 ⟨by decide, by decide⟩ rfl (Nat.le_of_ble_eq_true rfl) (T11_costOfNow M4 a0) (fun r11 M11 _ => ?_)
    refine X_ldc2 kc_x11_216 d14 ?_
    refine X_lif_lt (t := 23) d17 d18 rfl (fun h17 => ?_) (fun h17 => ?_)
    · refine X_aloadn 0 d23 rfl ?_
      refine X_getR d24 fg_x11_67 ?_
      refine X_aloadn 0 d27 rfl ?_
      refine X_getR d28 fg_x11_57 ?_
      refine X_aloadn 0 d31 rfl ?_
      refine X_getR d32 fg_x11_19 ?_
      refine X_aloadn 0 d35 rfl ?_
      refine X_getI d36 fg_x11_87 ?_
      refine X_aloadn 0 d39 rfl ?_
      refine X_getR d40 fg_x11_40 ?_
      refine X_cVv (as := [vr (mR M11 a0 5), vr (mR M11 a0 10), vi (mI M11 a0 12), vr (mR M11 a0 2)]) d43 cv_x11_218 ⟨by decide, by decide⟩ rfl (Nat.le_of_ble_eq_true rfl) (T10_follow M11 (mR M11 a0 7) (mR M11 a0 5) (mR M11 a0 10) (mI M11 a0 12) (mR M11 a0 2)) (fun M43 _ => ?_)
      refine X_aloadn 0 d46 rfl ?_
      refine X_getR d47 fg_x11_67 ?_
      refine X_getI d50 fg_x11_222 ?_
      refine X_if_eq (t := 59) d53 rfl (fun h53 => ?_) (fun h53 => ?_)
      · refine X_iloadn 1 d59 rfl ?_
        refine X_iconst k_i_m1 d60 ?_
        refine X_icmp_ne (t := 72) d61 rfl (fun h61 => ?_) (fun h61 => ?_)
        · refine X_aloadn 0 d64 rfl ?_
          refine X_getR d65 fg_x11_67 ?_
          refine X_getI d68 fg_x11_225 ?_
          exact X_ireturn d71 rfl rfl
        · refine X_iloadn 1 d72 rfl ?_
          refine X_if_lt (t := 98) d73 rfl (fun h73 => ?_) (fun h73 => ?_)
          · refine X_iconst k_i_m1 d98 ?_
            exact X_ireturn d99 rfl rfl
          · refine X_iloadn 1 d76 rfl ?_
            refine X_aloadn 0 d77 rfl ?_
            refine X_getR d78 fg_x11_67 ?_
            refine X_getI d81 fg_x11_225 ?_
            refine X_icmp_ge (t := 98) d84 rfl (fun h84 => ?_) (fun h84 => ?_)
            · refine X_iconst k_i_m1 d98 ?_
              exact X_ireturn d99 rfl rfl
            · refine X_aloadn 0 d87 rfl ?_
              refine X_getR d88 fg_x11_67 ?_
              refine X_iloadn 1 d91 rfl ?_
              refine X_cVi (as := [vi a1]) d92 cv_x11_228 ⟨by decide, by decide⟩ rfl (Nat.le_of_ble_eq_true rfl) (T10_ruleAt M43 (mR M43 a0 7) a1) (fun r92 M92 _ => ?_)
              refine X_goto (t := 99) d95 rfl ?_
              exact X_ireturn d99 rfl rfl
      · refine X_bipush k_b_m2 d56 ?_
        exact X_ireturn d58 rfl rfl
    · refine X_iconst k_i_m1 d21 ?_
      exact X_ireturn d22 rfl rfl
  · refine X_iconst k_i_m1 d21 ?_
    exact X_ireturn d22 rfl rfl

theorem dd12_about : AllD (ib i12_about) [(0, .aload_n 0, 1), (1, .iconst 0, 1), (2, .putfield 113, 3), (5, .iload_n 1, 1), (6, .tableswitch 64 0 6 #[42, 42, 42, 42, 49, 54, 59], 42), (48, .aload_n 0, 1), (49, .getfield 7, 3), (52, .iload_n 1, 1), (53, .iaload, 1), (54, .ireturn, 1), (55, .aload_n 0, 1), (56, .getfield 131, 3), (59, .ireturn, 1), (60, .aload_n 0, 1), (61, .getfield 240, 3), (64, .ireturn, 1), (65, .aload_n 0, 1), (66, .getfield 142, 3), (69, .ireturn, 1), (70, .iconst (-1), 1), (71, .ireturn, 1)] := allD_of (by decide +kernel)
def f12_about (M : MM) (a0 : Nat) (a1 : Int32) : Option (Int32 × MM) :=
  aO M a0 12 <|
  bM (sI M a0 0 (0 : Int32)) fun M2 =>
  if a1 = (0 : Int32) then
    aO M2 a0 12 <|
    aA M2 (mR M2 a0 1) 0 a1 <|
    some (mI M2 (mR M2 a0 1) a1.toNatClampNeg, M2)
  else
  if a1 = (1 : Int32) then
    aO M2 a0 12 <|
    aA M2 (mR M2 a0 1) 0 a1 <|
    some (mI M2 (mR M2 a0 1) a1.toNatClampNeg, M2)
  else
  if a1 = (2 : Int32) then
    aO M2 a0 12 <|
    aA M2 (mR M2 a0 1) 0 a1 <|
    some (mI M2 (mR M2 a0 1) a1.toNatClampNeg, M2)
  else
  if a1 = (3 : Int32) then
    aO M2 a0 12 <|
    aA M2 (mR M2 a0 1) 0 a1 <|
    some (mI M2 (mR M2 a0 1) a1.toNatClampNeg, M2)
  else
  if a1 = (4 : Int32) then
    aO M2 a0 12 <|
    some (mI M2 a0 5, M2)
  else
  if a1 = (5 : Int32) then
    aO M2 a0 12 <|
    some (mI M2 a0 23, M2)
  else
  if a1 = (6 : Int32) then
    aO M2 a0 12 <|
    some (mI M2 a0 7, M2)
  else
  some ((-1 : Int32), M2)
set_option maxRecDepth 4000 in
theorem T12_about (M : MM) (a0 : Nat) (a1 : Int32) : ∀ q, f12_about M a0 a1 = some q → Run i12_about [vr a0, vi a1] M (Li q) := by
  obtain ⟨d0, d1, d2, d5, d6, d48, d49, d52, d53, d54, d55, d56, d59, d60, d61, d64, d65, d66, d69, d70, d71, -⟩ := dd12_about
  refine Run_of_X (by decide) (Nat.le_of_ble_eq_true rfl) ?_
  show X Li i12_about 0 [(0, vr a0), (1, vi a1)] [] M _
  unfold f12_about
  refine X_aloadn 0 d0 rfl ?_
  refine X_iconst k_i_0 d1 ?_
  refine X_putI d2 fp_x12_113 ?_
  refine X_bM fun M2 _ => ?_
  refine X_iloadn 1 d5 rfl ?_
  refine X_ite (fun h6_0 => X_tin (t := 48) h6_0 d6 (by decide) (by decide) rfl rfl ?_) (fun h6_0 => ?_)
  · refine X_aloadn 0 d48 rfl ?_
    refine X_getR d49 fg_x12_7 ?_
    refine X_iloadn 1 d52 rfl ?_
    refine X_iaload d53 ?_
    exact X_ireturn d54 rfl rfl
  refine X_ite (fun h6_1 => X_tin (t := 48) h6_1 d6 (by decide) (by decide) rfl rfl ?_) (fun h6_1 => ?_)
  · refine X_aloadn 0 d48 rfl ?_
    refine X_getR d49 fg_x12_7 ?_
    refine X_iloadn 1 d52 rfl ?_
    refine X_iaload d53 ?_
    exact X_ireturn d54 rfl rfl
  refine X_ite (fun h6_2 => X_tin (t := 48) h6_2 d6 (by decide) (by decide) rfl rfl ?_) (fun h6_2 => ?_)
  · refine X_aloadn 0 d48 rfl ?_
    refine X_getR d49 fg_x12_7 ?_
    refine X_iloadn 1 d52 rfl ?_
    refine X_iaload d53 ?_
    exact X_ireturn d54 rfl rfl
  refine X_ite (fun h6_3 => X_tin (t := 48) h6_3 d6 (by decide) (by decide) rfl rfl ?_) (fun h6_3 => ?_)
  · refine X_aloadn 0 d48 rfl ?_
    refine X_getR d49 fg_x12_7 ?_
    refine X_iloadn 1 d52 rfl ?_
    refine X_iaload d53 ?_
    exact X_ireturn d54 rfl rfl
  refine X_ite (fun h6_4 => X_tin (t := 55) h6_4 d6 (by decide) (by decide) rfl rfl ?_) (fun h6_4 => ?_)
  · refine X_aloadn 0 d55 rfl ?_
    refine X_getI d56 fg_x12_131 ?_
    exact X_ireturn d59 rfl rfl
  refine X_ite (fun h6_5 => X_tin (t := 60) h6_5 d6 (by decide) (by decide) rfl rfl ?_) (fun h6_5 => ?_)
  · refine X_aloadn 0 d60 rfl ?_
    refine X_getI d61 fg_x12_240 ?_
    exact X_ireturn d64 rfl rfl
  refine X_ite (fun h6_6 => X_tin (t := 65) h6_6 d6 (by decide) (by decide) rfl rfl ?_) (fun h6_6 => ?_)
  · refine X_aloadn 0 d65 rfl ?_
    refine X_getI d66 fg_x12_142 ?_
    exact X_ireturn d69 rfl rfl
  refine X_tout (t := 70) (tsw_out7 h6_0 h6_1 h6_2 h6_3 h6_4 h6_5 h6_6) d6 rfl ?_
  refine X_iconst k_i_m1 d70 ?_
  exact X_ireturn d71 rfl rfl

theorem dd12_goesTo : AllD (ib i12_goesTo) [(0, .iload_n 1, 1), (1, .iconst 5, 1), (2, .isub, 1), (3, .iconst 4, 1), (4, .idiv, 1), (5, .istore_n 3, 1), (6, .iload_n 1, 1), (7, .iconst 5, 1), (8, .isub, 1), (9, .iconst 4, 1), (10, .irem, 1), (11, .istore 4, 2), (13, .iload 4, 2), (15, .aload_n 0, 1), (16, .getfield 41, 3), (19, .iload_n 3, 1), (20, .iaload, 1), (21, .if_icmp .ne 19, 3), (24, .aload_n 0, 1), (25, .getfield 44, 3), (28, .iload_n 3, 1), (29, .iaload, 1), (30, .iconst 1, 1), (31, .if_icmp .ne 7, 3), (34, .iload_n 1, 1), (35, .goto 4, 3), (38, .iconst (-1), 1), (39, .ireturn, 1), (40, .iload 4, 2), (42, .aload_n 0, 1), (43, .getfield 41, 3), (46, .iload_n 3, 1), (47, .iaload, 1), (48, .if_icmp .ge 24, 3), (51, .aload_n 0, 1), (52, .getfield 47, 3), (55, .iconst 3, 1), (56, .iload_n 3, 1), (57, .imul, 1), (58, .iload 4, 2), (60, .iadd, 1), (61, .iaload, 1), (62, .iload_n 2, 1), (63, .if_icmp .ne 9, 3), (66, .iload_n 1, 1), (67, .iconst 1, 1), (68, .iadd, 1), (69, .goto 4, 3), (72, .iconst (-1), 1), (73, .ireturn, 1)] := allD_of (by decide +kernel)
def f12_goesTo (M : MM) (a0 : Nat) (a1 : Int32) (a2 : Int32) : Option (Int32 × MM) :=
  gd (¬ (4 : Int32) = 0) <|
  bW ((a1 - (5 : Int32)) / (4 : Int32)) fun v5 =>
  gd (¬ (4 : Int32) = 0) <|
  bW ((a1 - (5 : Int32)) - (a1 - (5 : Int32)) / (4 : Int32) * (4 : Int32)) fun v11 =>
  aO M a0 12 <|
  aA M (mR M a0 25) 0 v5 <|
  if v11 = (mI M (mR M a0 25) v5.toNatClampNeg) then
    aO M a0 12 <|
    aA M (mR M a0 26) 0 v5 <|
    if (mI M (mR M a0 26) v5.toNatClampNeg) = (1 : Int32) then
      some (a1, M)
    else
      some ((-1 : Int32), M)
  else
    aO M a0 12 <|
    aA M (mR M a0 25) 0 v5 <|
    if (mI M (mR M a0 25) v5.toNatClampNeg) ≤ v11 then
      some ((-1 : Int32), M)
    else
      aO M a0 12 <|
      aA M (mR M a0 27) 0 (((3 : Int32) * v5) + v11) <|
      if (mI M (mR M a0 27) (((3 : Int32) * v5) + v11).toNatClampNeg) = a2 then
        some (a1 + (1 : Int32), M)
      else
        some ((-1 : Int32), M)
set_option maxRecDepth 4000 in
theorem T12_goesTo (M : MM) (a0 : Nat) (a1 : Int32) (a2 : Int32) : ∀ q, f12_goesTo M a0 a1 a2 = some q → Run i12_goesTo [vr a0, vi a1, vi a2] M (Li q) := by
  obtain ⟨d0, d1, d2, d3, d4, d5, d6, d7, d8, d9, d10, d11, d13, d15, d16, d19, d20, d21, d24, d25, d28, d29, d30, d31, d34, d35, d38, d39, d40, d42, d43, d46, d47, d48, d51, d52, d55, d56, d57, d58, d60, d61, d62, d63, d66, d67, d68, d69, d72, d73, -⟩ := dd12_goesTo
  refine Run_of_X (by decide) (Nat.le_of_ble_eq_true rfl) ?_
  show X Li i12_goesTo 0 [(0, vr a0), (1, vi a1), (2, vi a2)] [] M _
  unfold f12_goesTo
  refine X_iloadn 1 d0 rfl ?_
  refine X_iconst k_i_5 d1 ?_
  refine X_isub d2 ?_
  refine X_iconst k_i_4 d3 ?_
  refine X_idiv d4 ?_
  refine X_bWi fun v5 _ => ?_
  refine X_istoren (lv' := [(3, vi v5), (0, vr a0), (1, vi a1), (2, vi a2)]) d5 (by decide) rfl ?_
  refine X_iloadn 2 d6 rfl ?_
  refine X_iconst k_i_5 d7 ?_
  refine X_isub d8 ?_
  refine X_iconst k_i_4 d9 ?_
  refine X_irem d10 ?_
  refine X_bWi fun v11 _ => ?_
  refine X_istore (lv' := [(4, vi v11), (3, vi v5), (0, vr a0), (1, vi a1), (2, vi a2)]) d11 (by decide) rfl ?_
  refine X_iload 0 d13 rfl ?_
  refine X_aloadn 2 d15 rfl ?_
  refine X_getR d16 fg_x12_41 ?_
  refine X_iloadn 1 d19 rfl ?_
  refine X_iaload d20 ?_
  refine X_icmp_ne (t := 40) d21 rfl (fun h21 => ?_) (fun h21 => ?_)
  · refine X_aloadn 2 d24 rfl ?_
    refine X_getR d25 fg_x12_44 ?_
    refine X_iloadn 1 d28 rfl ?_
    refine X_iaload d29 ?_
    refine X_iconst k_i_1 d30 ?_
    refine X_icmp_ne (t := 38) d31 rfl (fun h31 => ?_) (fun h31 => ?_)
    · refine X_iloadn 3 d34 rfl ?_
      refine X_goto (t := 39) d35 rfl ?_
      exact X_ireturn d39 rfl rfl
    · refine X_iconst k_i_m1 d38 ?_
      exact X_ireturn d39 rfl rfl
  · refine X_iload 0 d40 rfl ?_
    refine X_aloadn 2 d42 rfl ?_
    refine X_getR d43 fg_x12_41 ?_
    refine X_iloadn 1 d46 rfl ?_
    refine X_iaload d47 ?_
    refine X_icmp_ge (t := 72) d48 rfl (fun h48 => ?_) (fun h48 => ?_)
    · refine X_iconst k_i_m1 d72 ?_
      exact X_ireturn d73 rfl rfl
    · refine X_aloadn 2 d51 rfl ?_
      refine X_getR d52 fg_x12_47 ?_
      refine X_iconst k_i_3 d55 ?_
      refine X_iloadn 1 d56 rfl ?_
      refine X_imul d57 ?_
      refine X_iload 0 d58 rfl ?_
      refine X_iadd d60 ?_
      refine X_iaload d61 ?_
      refine X_iloadn 4 d62 rfl ?_
      refine X_icmp_ne (t := 72) d63 rfl (fun h63 => ?_) (fun h63 => ?_)
      · refine X_iloadn 3 d66 rfl ?_
        refine X_iconst k_i_1 d67 ?_
        refine X_iadd d68 ?_
        refine X_goto (t := 73) d69 rfl ?_
        exact X_ireturn d73 rfl rfl
      · refine X_iconst k_i_m1 d72 ?_
        exact X_ireturn d73 rfl rfl

theorem dd12_cell : AllD (ib i12_cell) [(0, .bipush 21, 2), (2, .bipush 6, 2), (4, .iload_n 1, 1), (5, .imul, 1), (6, .iload_n 2, 1), (7, .iadd, 1), (8, .imul, 1), (9, .iload_n 3, 1), (10, .iadd, 1), (11, .ireturn, 1)] := allD_of (by decide +kernel)
def f12_cell (M : MM) (a0 : Nat) (a1 : Int32) (a2 : Int32) (a3 : Int32) : Option (Int32 × MM) :=
  some (((21 : Int32) * (((6 : Int32) * a1) + a2)) + a3, M)
set_option maxRecDepth 4000 in
theorem T12_cell (M : MM) (a0 : Nat) (a1 : Int32) (a2 : Int32) (a3 : Int32) : ∀ q, f12_cell M a0 a1 a2 a3 = some q → Run i12_cell [vr a0, vi a1, vi a2, vi a3] M (Li q) := by
  obtain ⟨d0, d2, d4, d5, d6, d7, d8, d9, d10, d11, -⟩ := dd12_cell
  refine Run_of_X (by decide) (Nat.le_of_ble_eq_true rfl) ?_
  show X Li i12_cell 0 [(0, vr a0), (1, vi a1), (2, vi a2), (3, vi a3)] [] M _
  unfold f12_cell
  refine X_bipush k_b_21 d0 ?_
  refine X_bipush k_b_6 d2 ?_
  refine X_iloadn 1 d4 rfl ?_
  refine X_imul d5 ?_
  refine X_iloadn 2 d6 rfl ?_
  refine X_iadd d7 ?_
  refine X_imul d8 ?_
  refine X_iloadn 3 d9 rfl ?_
  refine X_iadd d10 ?_
  exact X_ireturn d11 rfl rfl

theorem dd12_costOf : AllD (ib i12_costOf) [(0, .aload_n 1, 1), (1, .aload_n 0, 1), (2, .iload_n 2, 1), (3, .iload_n 3, 1), (4, .iload 4, 2), (6, .invokevirtual 281, 3), (9, .laload, 1), (10, .lreturn, 1)] := allD_of (by decide +kernel)
def f12_costOf (M : MM) (a0 : Nat) (a1 : Nat) (a2 : Int32) (a3 : Int32) (a4 : Int32) : Option (Int64 × MM) :=
  aO M a0 12 <|
  cI (f12_cell M a0 a2 a3 a4) fun r6 M6 =>
  aA M6 a1 1 r6 <|
  some (mJ M6 a1 r6.toNatClampNeg, M6)
set_option maxRecDepth 4000 in
theorem T12_costOf (M : MM) (a0 : Nat) (a1 : Nat) (a2 : Int32) (a3 : Int32) (a4 : Int32) : ∀ q, f12_costOf M a0 a1 a2 a3 a4 = some q → Run i12_costOf [vr a0, vr a1, vi a2, vi a3, vi a4] M (Ll q) := by
  obtain ⟨d0, d1, d2, d3, d4, d6, d9, d10, -⟩ := dd12_costOf
  refine Run_of_X (by decide) (Nat.le_of_ble_eq_true rfl) ?_
  show X Ll i12_costOf 0 [(0, vr a0), (1, vr a1), (2, vi a2), (3, vi a3), (4, vi a4)] [] M _
  unfold f12_costOf
  refine X_aloadn 1 d0 rfl ?_
  refine X_aloadn 0 d1 rfl ?_
  refine X_iloadn 2 d2 rfl ?_
  refine X_iloadn 3 d3 rfl ?_
  refine X_iload 4 d4 rfl ?_
  refine X_cVi (as := [vi a2, vi a3, vi a4]) d6 cv_x12_281 ⟨by decide, by decide⟩ rfl (Nat.le_of_ble_eq_true rfl) (T12_cell M a0 a2 a3 a4) (fun r6 M6 _ => ?_)
  refine X_laload d9 ?_
  exact X_lreturn d10 rfl rfl

theorem dd12_sum_b12 : AllD (ib i12_sum) [(12, .ldc2_w 116, 3), (15, .goto 6, 3)] := allD_of (by decide +kernel)
def f12_sum_b12 (K21 : MM → Int64 → Option (Int64 × MM)) (M : MM) : Option (Int64 × MM) :=
  K21 M (-1 : Int64)
set_option maxRecDepth 4000 in
theorem T12_sum_b12 {K21 : MM → Int64 → Option (Int64 × MM)} (hK21 : ∀ (M : MM) (s0 : Int64), X Ll i12_sum 21 [] [vl s0] M (K21 M s0)) : ∀ (M : MM), X Ll i12_sum 12 [] [] M (f12_sum_b12 K21 M) := by
  obtain ⟨d12, d15, -⟩ := dd12_sum_b12
  intro M
  unfold f12_sum_b12
  refine X_ldc2 kc_x12_116 d12 ?_
  refine X_goto (t := 21) d15 rfl ?_
  exact hK21 M (-1 : Int64)

theorem dd12_sum_b21 : AllD (ib i12_sum) [(21, .lstore 4, 2), (23, .lload 4, 2), (25, .ldc2_w 118, 3), (28, .lcmp, 1), (29, .ifCond .le 9, 3), (32, .ldc2_w 118, 3), (35, .goto 5, 3), (38, .lload 4, 2), (40, .lreturn, 1)] := allD_of (by decide +kernel)
def f12_sum_b21 (M : MM) (s0 : Int64) : Option (Int64 × MM) :=
  if s0 ≤ (1000000000000000 : Int64) then
    some (s0, M)
  else
    some ((1000000000000000 : Int64), M)
set_option maxRecDepth 4000 in
theorem T12_sum_b21 : ∀ (M : MM) (s0 : Int64), X Ll i12_sum 21 [] [vl s0] M (f12_sum_b21 M s0) := by
  obtain ⟨d21, d23, d25, d28, d29, d32, d35, d38, d40, -⟩ := dd12_sum_b21
  intro M s0
  unfold f12_sum_b21
  refine X_lstore (lv' := [(4, vl s0)]) d21 (by decide) rfl ?_
  refine X_lload 0 d23 rfl ?_
  refine X_ldc2 kc_x12_118 d25 ?_
  refine X_lif_le (t := 38) d28 d29 rfl (fun h28 => ?_) (fun h28 => ?_)
  · refine X_lload 0 d38 rfl ?_
    exact X_lreturn d40 rfl rfl
  · refine X_ldc2 kc_x12_118 d32 ?_
    refine X_goto (t := 40) d35 rfl ?_
    exact X_lreturn d40 rfl rfl

theorem dd12_sum : AllD (ib i12_sum) [(0, .lload_n 0, 1), (1, .lconst 0, 1), (2, .lcmp, 1), (3, .ifCond .lt 9, 3), (6, .lload_n 2, 1), (7, .lconst 0, 1), (8, .lcmp, 1), (9, .ifCond .ge 9, 3), (18, .lload_n 0, 1), (19, .lload_n 2, 1), (20, .ladd, 1)] := allD_of (by decide +kernel)
def f12_sum (M : MM) (a0 : Int64) (a2 : Int64) : Option (Int64 × MM) :=
  if a0 < (0 : Int64) then
    (f12_sum_b12 f12_sum_b21) M
  else
    if (0 : Int64) ≤ a2 then
      f12_sum_b21 M (a0 + a2)
    else
      (f12_sum_b12 f12_sum_b21) M
set_option maxRecDepth 4000 in
theorem T12_sum (M : MM) (a0 : Int64) (a2 : Int64) : ∀ q, f12_sum M a0 a2 = some q → Run i12_sum [vl a0, vl a2] M (Ll q) := by
  obtain ⟨d0, d1, d2, d3, d6, d7, d8, d9, d18, d19, d20, -⟩ := dd12_sum
  refine Run_of_X (by decide) (Nat.le_of_ble_eq_true rfl) ?_
  show X Ll i12_sum 0 [(0, vl a0), (2, vl a2)] [] M _
  unfold f12_sum
  refine X_lloadn 0 d0 rfl ?_
  refine X_lconst k_l_0 d1 ?_
  refine X_lif_lt (t := 12) d2 d3 rfl (fun h2 => ?_) (fun h2 => ?_)
  · refine X_sub [] rfl ?_
    exact (T12_sum_b12 T12_sum_b21) M
  · refine X_lloadn 1 d6 rfl ?_
    refine X_lconst k_l_0 d7 ?_
    refine X_lif_ge (t := 18) d8 d9 rfl (fun h8 => ?_) (fun h8 => ?_)
    · refine X_lloadn 0 d18 rfl ?_
      refine X_lloadn 1 d19 rfl ?_
      refine X_ladd d20 ?_
      refine X_sub [] rfl ?_
      exact T12_sum_b21 M (a0 + a2)
    · refine X_sub [] rfl ?_
      exact (T12_sum_b12 T12_sum_b21) M

theorem dd12_lesser_b22 : AllD (ib i12_lesser) [(22, .lload_n 0, 1), (23, .goto 4, 3), (27, .lreturn, 1)] := allD_of (by decide +kernel)
def f12_lesser_b22 (M : MM) (a0 : Int64) : Option (Int64 × MM) :=
  some (a0, M)
set_option maxRecDepth 4000 in
theorem T12_lesser_b22 : ∀ (M : MM) (a0 : Int64), X Ll i12_lesser 22 [(0, vl a0)] [] M (f12_lesser_b22 M a0) := by
  obtain ⟨d22, d23, d27, -⟩ := dd12_lesser_b22
  intro M a0
  unfold f12_lesser_b22
  refine X_lloadn 0 d22 rfl ?_
  refine X_goto (t := 27) d23 rfl ?_
  exact X_lreturn d27 rfl rfl

theorem dd12_lesser : AllD (ib i12_lesser) [(0, .lload_n 0, 1), (1, .lconst 0, 1), (2, .lcmp, 1), (3, .ifCond .ge 7, 3), (6, .lload_n 2, 1), (7, .goto 20, 3), (10, .lload_n 2, 1), (11, .lconst 0, 1), (12, .lcmp, 1), (13, .ifCond .lt 9, 3), (16, .lload_n 0, 1), (17, .lload_n 2, 1), (18, .lcmp, 1), (19, .ifCond .ge 7, 3), (26, .lload_n 2, 1), (27, .lreturn, 1)] := allD_of (by decide +kernel)
def f12_lesser (M : MM) (a0 : Int64) (a2 : Int64) : Option (Int64 × MM) :=
  if (0 : Int64) ≤ a0 then
    if a2 < (0 : Int64) then
      f12_lesser_b22 M a0
    else
      if a2 ≤ a0 then
        some (a2, M)
      else
        f12_lesser_b22 M a0
  else
    some (a2, M)
set_option maxRecDepth 4000 in
theorem T12_lesser (M : MM) (a0 : Int64) (a2 : Int64) : ∀ q, f12_lesser M a0 a2 = some q → Run i12_lesser [vl a0, vl a2] M (Ll q) := by
  obtain ⟨d0, d1, d2, d3, d6, d7, d10, d11, d12, d13, d16, d17, d18, d19, d26, d27, -⟩ := dd12_lesser
  refine Run_of_X (by decide) (Nat.le_of_ble_eq_true rfl) ?_
  show X Ll i12_lesser 0 [(0, vl a0), (2, vl a2)] [] M _
  unfold f12_lesser
  refine X_lloadn 0 d0 rfl ?_
  refine X_lconst k_l_0 d1 ?_
  refine X_lif_ge (t := 10) d2 d3 rfl (fun h2 => ?_) (fun h2 => ?_)
  · refine X_lloadn 1 d10 rfl ?_
    refine X_lconst k_l_0 d11 ?_
    refine X_lif_lt (t := 22) d12 d13 rfl (fun h12 => ?_) (fun h12 => ?_)
    · refine X_sub [0] rfl ?_
      exact T12_lesser_b22 M a0
    · refine X_lloadn 0 d16 rfl ?_
      refine X_lloadn 1 d17 rfl ?_
      refine X_lif_ge (t := 26) d18 d19 rfl (fun h18 => ?_) (fun h18 => ?_)
      · refine X_lloadn 1 d26 rfl ?_
        exact X_lreturn d27 rfl rfl
      · refine X_sub [0] rfl ?_
        exact T12_lesser_b22 M a0
  · refine X_lloadn 1 d6 rfl ?_
    refine X_goto (t := 27) d7 rfl ?_
    exact X_lreturn d27 rfl rfl

theorem dd12_aboveBy_b27 : AllD (ib i12_aboveBy) [(27, .istore 5, 2), (29, .iload 5, 2), (31, .ifCond .ge 9, 3), (34, .ldc2_w 116, 3), (37, .goto 16, 3), (40, .aload_n 0, 1), (41, .getfield 57, 3), (44, .bipush 21, 2), (46, .iload 4, 2), (48, .imul, 1), (49, .iload 5, 2), (51, .iadd, 1), (52, .laload, 1), (53, .lreturn, 1)] := allD_of (by decide +kernel)
def f12_aboveBy_b27 (M : MM) (a0 : Nat) (a4 : Int32) (s0 : Int32) : Option (Int64 × MM) :=
  if 0 ≤ s0 then
    aO M a0 12 <|
    aA M (mR M a0 32) 1 (((21 : Int32) * a4) + s0) <|
    some (mJ M (mR M a0 32) (((21 : Int32) * a4) + s0).toNatClampNeg, M)
  else
    some ((-1 : Int64), M)
set_option maxRecDepth 4000 in
theorem T12_aboveBy_b27 : ∀ (M : MM) (a0 : Nat) (a4 : Int32) (s0 : Int32), X Ll i12_aboveBy 27 [(0, vr a0), (4, vi a4)] [vi s0] M (f12_aboveBy_b27 M a0 a4 s0) := by
  obtain ⟨d27, d29, d31, d34, d37, d40, d41, d44, d46, d48, d49, d51, d52, d53, -⟩ := dd12_aboveBy_b27
  intro M a0 a4 s0
  unfold f12_aboveBy_b27
  refine X_istore (lv' := [(5, vi s0), (0, vr a0), (4, vi a4)]) d27 (by decide) rfl ?_
  refine X_iload 0 d29 rfl ?_
  refine X_if_ge (t := 40) d31 rfl (fun h31 => ?_) (fun h31 => ?_)
  · refine X_aloadn 1 d40 rfl ?_
    refine X_getR d41 fg_x12_57 ?_
    refine X_bipush k_b_21 d44 ?_
    refine X_iload 2 d46 rfl ?_
    refine X_imul d48 ?_
    refine X_iload 0 d49 rfl ?_
    refine X_iadd d51 ?_
    refine X_laload d52 ?_
    exact X_lreturn d53 rfl rfl
  · refine X_ldc2 kc_x12_116 d34 ?_
    refine X_goto (t := 53) d37 rfl ?_
    exact X_lreturn d53 rfl rfl

theorem dd12_aboveBy_b62 : AllD (ib i12_aboveBy) [(62, .iload 7, 2), (64, .bipush 21, 2), (66, .if_icmp .ge 41, 3), (69, .lload 5, 2), (71, .aload_n 0, 1), (72, .aload_n 1, 1), (73, .iload_n 2, 1), (74, .iload_n 3, 1), (75, .iload 7, 2), (77, .invokevirtual 299, 3), (80, .aload_n 0, 1), (81, .getfield 57, 3), (84, .bipush 21, 2), (86, .iload 4, 2), (88, .imul, 1), (89, .iload 7, 2), (91, .iadd, 1), (92, .laload, 1), (93, .invokestatic 292, 3), (96, .invokestatic 296, 3), (99, .lstore 5, 2), (101, .iinc 7 1, 3), (104, .goto (-42), 3), (107, .lload 5, 2), (109, .lreturn, 1)] := allD_of (by decide +kernel)
def f12_aboveBy_b62_body (rc : MM → Nat → Nat → Int32 → Int32 → Int32 → Int64 → Int32 → Option (Int64 × MM)) (M : MM) (a0 : Nat) (a1 : Nat) (a2 : Int32) (a3 : Int32) (a4 : Int32) (a5 : Int64) (a7 : Int32) : Option (Int64 × MM) :=
  if (21 : Int32) ≤ a7 then
    some (a5, M)
  else
    aO M a0 12 <|
    cJ (f12_costOf M a0 a1 a2 a3 a7) fun r77 M77 =>
    aO M77 a0 12 <|
    aA M77 (mR M77 a0 32) 1 (((21 : Int32) * a4) + a7) <|
    cJ (f12_sum M77 r77 (mJ M77 (mR M77 a0 32) (((21 : Int32) * a4) + a7).toNatClampNeg)) fun r93 M93 =>
    cJ (f12_lesser M93 a5 r93) fun r96 M96 =>
    rc M96 a0 a1 a2 a3 a4 r96 (a7 + (1 : Int32))
def f12_aboveBy_b62 : MM → Nat → Nat → Int32 → Int32 → Int32 → Int64 → Int32 → Option (Int64 × MM) := LP8 (f12_aboveBy_b62_body) FU
set_option maxRecDepth 4000 in
theorem T12_aboveBy_b62 : ∀ (M : MM) (a0 : Nat) (a1 : Nat) (a2 : Int32) (a3 : Int32) (a4 : Int32) (a5 : Int64) (a7 : Int32), X Ll i12_aboveBy 62 [(0, vr a0), (1, vr a1), (2, vi a2), (3, vi a3), (4, vi a4), (5, vl a5), (7, vi a7)] [] M (f12_aboveBy_b62 M a0 a1 a2 a3 a4 a5 a7) := by
  obtain ⟨d62, d64, d66, d69, d71, d72, d73, d74, d75, d77, d80, d81, d84, d86, d88, d89, d91, d92, d93, d96, d99, d101, d104, d107, d109, -⟩ := dd12_aboveBy_b62
  refine LP8_i (P := fun M a0 a1 a2 a3 a4 a5 a7 o => X Ll i12_aboveBy 62 [(0, vr a0), (1, vr a1), (2, vi a2), (3, vi a3), (4, vi a4), (5, vl a5), (7, vi a7)] [] M o) (fun _ _ _ _ _ _ _ _ => X_none) (fun rc ih M a0 a1 a2 a3 a4 a5 a7 => ?_) FU
  unfold f12_aboveBy_b62_body
  refine X_iload 6 d62 rfl ?_
  refine X_bipush k_b_21 d64 ?_
  refine X_icmp_ge (t := 107) d66 rfl (fun h66 => ?_) (fun h66 => ?_)
  · refine X_lload 5 d107 rfl ?_
    exact X_lreturn d109 rfl rfl
  · refine X_lload 5 d69 rfl ?_
    refine X_aloadn 0 d71 rfl ?_
    refine X_aloadn 1 d72 rfl ?_
    refine X_iloadn 2 d73 rfl ?_
    refine X_iloadn 3 d74 rfl ?_
    refine X_iload 6 d75 rfl ?_
    refine X_cVl (as := [vr a1, vi a2, vi a3, vi a7]) d77 cv_x12_299 ⟨by decide, by decide⟩ rfl (Nat.le_of_ble_eq_true rfl) (T12_costOf M a0 a1 a2 a3 a7) (fun r77 M77 _ => ?_)
    refine X_aloadn 0 d80 rfl ?_
    refine X_getR d81 fg_x12_57 ?_
    refine X_bipush k_b_21 d84 ?_
    refine X_iload 4 d86 rfl ?_
    refine X_imul d88 ?_
    refine X_iload 6 d89 rfl ?_
    refine X_iadd d91 ?_
    refine X_laload d92 ?_
    refine X_cSl (as := [vl r77, vl (mJ M77 (mR M77 a0 32) (((21 : Int32) * a4) + a7).toNatClampNeg)]) d93 cs_x12_292 ⟨by decide, by decide⟩ rfl (Nat.le_of_ble_eq_true rfl) (T12_sum M77 r77 (mJ M77 (mR M77 a0 32) (((21 : Int32) * a4) + a7).toNatClampNeg)) (fun r93 M93 _ => ?_)
    refine X_cSl (as := [vl a5, vl r93]) d96 cs_x12_296 ⟨by decide, by decide⟩ rfl (Nat.le_of_ble_eq_true rfl) (T12_lesser M93 a5 r93) (fun r96 M96 _ => ?_)
    refine X_lstore (lv' := [(5, vl r96), (0, vr a0), (1, vr a1), (2, vi a2), (3, vi a3), (4, vi a4), (7, vi a7)]) d99 (by decide) rfl ?_
    refine X_inc (lv' := [(7, vi (a7 + (1 : Int32))), (5, vl r96), (0, vr a0), (1, vr a1), (2, vi a2), (3, vi a3), (4, vi a4)]) 6 d101 k_i_1 rfl (by decide) rfl ?_
    refine X_goto (t := 62) d104 rfl ?_
    refine X_sub [2, 3, 4, 5, 6, 1, 0] rfl ?_
    exact ih M96 a0 a1 a2 a3 a4 r96 (a7 + (1 : Int32))

theorem dd12_aboveBy : AllD (ib i12_aboveBy) [(0, .iload_n 2, 1), (1, .iconst 5, 1), (2, .if_icmp .lt 52, 3), (5, .iload_n 2, 1), (6, .iconst 5, 1), (7, .isub, 1), (8, .iconst 4, 1), (9, .idiv, 1), (10, .aload_n 0, 1), (11, .getfield 278, 3), (14, .if_icmp .ge 12, 3), (17, .aload_n 0, 1), (18, .iload_n 2, 1), (19, .iload_n 3, 1), (20, .invokevirtual 306, 3), (23, .goto 4, 3), (26, .iconst (-1), 1), (54, .ldc2_w 116, 3), (57, .lstore 5, 2), (59, .iconst 0, 1), (60, .istore 7, 2)] := allD_of (by decide +kernel)
def f12_aboveBy (M : MM) (a0 : Nat) (a1 : Nat) (a2 : Int32) (a3 : Int32) (a4 : Int32) : Option (Int64 × MM) :=
  if a2 < (5 : Int32) then
    f12_aboveBy_b62 M a0 a1 a2 a3 a4 (-1 : Int64) (0 : Int32)
  else
    gd (¬ (4 : Int32) = 0) <|
    aO M a0 12 <|
    if (mI M a0 30) ≤ ((a2 - (5 : Int32)) / (4 : Int32)) then
      f12_aboveBy_b27 M a0 a4 (-1 : Int32)
    else
      aO M a0 12 <|
      cI (f12_goesTo M a0 a2 a3) fun r20 M20 =>
      f12_aboveBy_b27 M20 a0 a4 r20
set_option maxRecDepth 4000 in
theorem T12_aboveBy (M : MM) (a0 : Nat) (a1 : Nat) (a2 : Int32) (a3 : Int32) (a4 : Int32) : ∀ q, f12_aboveBy M a0 a1 a2 a3 a4 = some q → Run i12_aboveBy [vr a0, vr a1, vi a2, vi a3, vi a4] M (Ll q) := by
  obtain ⟨d0, d1, d2, d5, d6, d7, d8, d9, d10, d11, d14, d17, d18, d19, d20, d23, d26, d54, d57, d59, d60, -⟩ := dd12_aboveBy
  refine Run_of_X (by decide) (Nat.le_of_ble_eq_true rfl) ?_
  show X Ll i12_aboveBy 0 [(0, vr a0), (1, vr a1), (2, vi a2), (3, vi a3), (4, vi a4)] [] M _
  unfold f12_aboveBy
  refine X_iloadn 2 d0 rfl ?_
  refine X_iconst k_i_5 d1 ?_
  refine X_icmp_lt (t := 54) d2 rfl (fun h2 => ?_) (fun h2 => ?_)
  · refine X_ldc2 kc_x12_116 d54 ?_
    refine X_lstore (lv' := [(5, vl (-1 : Int64)), (0, vr a0), (1, vr a1), (2, vi a2), (3, vi a3), (4, vi a4)]) d57 (by decide) rfl ?_
    refine X_iconst k_i_0 d59 ?_
    refine X_istore (lv' := [(7, vi (0 : Int32)), (5, vl (-1 : Int64)), (0, vr a0), (1, vr a1), (2, vi a2), (3, vi a3), (4, vi a4)]) d60 (by decide) rfl ?_
    refine X_sub [2, 3, 4, 5, 6, 1, 0] rfl ?_
    exact T12_aboveBy_b62 M a0 a1 a2 a3 a4 (-1 : Int64) (0 : Int32)
  · refine X_iloadn 2 d5 rfl ?_
    refine X_iconst k_i_5 d6 ?_
    refine X_isub d7 ?_
    refine X_iconst k_i_4 d8 ?_
    refine X_idiv d9 ?_
    refine X_aloadn 0 d10 rfl ?_
    refine X_getI d11 fg_x12_278 ?_
    refine X_icmp_ge (t := 26) d14 rfl (fun h14 => ?_) (fun h14 => ?_)
    · refine X_iconst k_i_m1 d26 ?_
      refine X_sub [0, 4] rfl ?_
      exact T12_aboveBy_b27 M a0 a4 (-1 : Int32)
    · refine X_aloadn 0 d17 rfl ?_
      refine X_iloadn 2 d18 rfl ?_
      refine X_iloadn 3 d19 rfl ?_
      refine X_cVi (as := [vi a2, vi a3]) d20 cv_x12_306 ⟨by decide, by decide⟩ rfl (Nat.le_of_ble_eq_true rfl) (T12_goesTo M a0 a2 a3) (fun r20 M20 _ => ?_)
      refine X_goto (t := 27) d23 rfl ?_
      refine X_sub [0, 4] rfl ?_
      exact T12_aboveBy_b27 M20 a0 a4 r20

theorem dd12_isOf : AllD (ib i12_isOf) [(0, .iload_n 0, 1), (1, .iload_n 1, 1), (2, .ishr, 1), (3, .iconst 1, 1), (4, .iand, 1), (5, .iconst 1, 1), (6, .if_icmp .ne 7, 3), (9, .iconst 1, 1), (10, .goto 4, 3), (13, .iconst 0, 1), (14, .ireturn, 1)] := allD_of (by decide +kernel)
def f12_isOf (M : MM) (a0 : Int32) (a1 : Int32) : Option (Int32 × MM) :=
  if ((a0 >>> (a1 &&& 31)) &&& (1 : Int32)) = (1 : Int32) then
    some ((1 : Int32), M)
  else
    some ((0 : Int32), M)
set_option maxRecDepth 4000 in
theorem T12_isOf (M : MM) (a0 : Int32) (a1 : Int32) : ∀ q, f12_isOf M a0 a1 = some q → Run i12_isOf [vi a0, vi a1] M (Li q) := by
  obtain ⟨d0, d1, d2, d3, d4, d5, d6, d9, d10, d13, d14, -⟩ := dd12_isOf
  refine Run_of_X (by decide) (Nat.le_of_ble_eq_true rfl) ?_
  show X Li i12_isOf 0 [(0, vi a0), (1, vi a1)] [] M _
  unfold f12_isOf
  refine X_iloadn 0 d0 rfl ?_
  refine X_iloadn 1 d1 rfl ?_
  refine X_ishr d2 ?_
  refine X_iconst k_i_1 d3 ?_
  refine X_iand d4 ?_
  refine X_iconst k_i_1 d5 ?_
  refine X_icmp_ne (t := 13) d6 rfl (fun h6 => ?_) (fun h6 => ?_)
  · refine X_iconst k_i_1 d9 ?_
    refine X_goto (t := 14) d10 rfl ?_
    exact X_zreturnc d14 rfl (by decide) rfl
  · refine X_iconst k_i_0 d13 ?_
    exact X_zreturnc d14 rfl (by decide) rfl

theorem dd12_ruleOf : AllD (ib i12_ruleOf) [(0, .aload_n 0, 1), (1, .getfield 16, 3), (4, .bipush 7, 2), (6, .iload_n 1, 1), (7, .imul, 1), (8, .iload_n 2, 1), (9, .iadd, 1), (10, .iaload, 1), (11, .ireturn, 1)] := allD_of (by decide +kernel)
def f12_ruleOf (M : MM) (a0 : Nat) (a1 : Int32) (a2 : Int32) : Option (Int32 × MM) :=
  aO M a0 12 <|
  aA M (mR M a0 3) 0 (((7 : Int32) * a1) + a2) <|
  some (mI M (mR M a0 3) (((7 : Int32) * a1) + a2).toNatClampNeg, M)
set_option maxRecDepth 4000 in
theorem T12_ruleOf (M : MM) (a0 : Nat) (a1 : Int32) (a2 : Int32) : ∀ q, f12_ruleOf M a0 a1 a2 = some q → Run i12_ruleOf [vr a0, vi a1, vi a2] M (Li q) := by
  obtain ⟨d0, d1, d4, d6, d7, d8, d9, d10, d11, -⟩ := dd12_ruleOf
  refine Run_of_X (by decide) (Nat.le_of_ble_eq_true rfl) ?_
  show X Li i12_ruleOf 0 [(0, vr a0), (1, vi a1), (2, vi a2)] [] M _
  unfold f12_ruleOf
  refine X_aloadn 0 d0 rfl ?_
  refine X_getR d1 fg_x12_16 ?_
  refine X_bipush k_b_7 d4 ?_
  refine X_iloadn 1 d6 rfl ?_
  refine X_imul d7 ?_
  refine X_iloadn 2 d8 rfl ?_
  refine X_iadd d9 ?_
  refine X_iaload d10 ?_
  exact X_ireturn d11 rfl rfl

theorem dd12_isHeadOf : AllD (ib i12_isHeadOf) [(0, .aload_n 0, 1), (1, .getfield 131, 3), (4, .iload_n 1, 1), (5, .invokestatic 134, 3), (8, .ifCond .ne 27, 3), (11, .aload_n 0, 1), (12, .iload_n 1, 1), (13, .iconst 0, 1), (14, .invokevirtual 138, 3), (17, .iload_n 2, 1), (18, .if_icmp .ne 17, 3), (21, .aload_n 0, 1), (22, .iload_n 1, 1), (23, .iconst 1, 1), (24, .invokevirtual 138, 3), (27, .iload_n 3, 1), (28, .if_icmp .ne 7, 3), (31, .iconst 1, 1), (32, .goto 4, 3), (35, .iconst 0, 1), (36, .ireturn, 1)] := allD_of (by decide +kernel)
def f12_isHeadOf (M : MM) (a0 : Nat) (a1 : Int32) (a2 : Int32) (a3 : Int32) : Option (Int32 × MM) :=
  aO M a0 12 <|
  cI (f12_isOf M (mI M a0 5) a1) fun r5 M5 =>
  if r5 = 0 then
    aO M5 a0 12 <|
    cI (f12_ruleOf M5 a0 a1 (0 : Int32)) fun r14 M14 =>
    if r14 = a2 then
      aO M14 a0 12 <|
      cI (f12_ruleOf M14 a0 a1 (1 : Int32)) fun r24 M24 =>
      if r24 = a3 then
        some ((1 : Int32), M24)
      else
        some ((0 : Int32), M24)
    else
      some ((0 : Int32), M14)
  else
    some ((0 : Int32), M5)
set_option maxRecDepth 4000 in
theorem T12_isHeadOf (M : MM) (a0 : Nat) (a1 : Int32) (a2 : Int32) (a3 : Int32) : ∀ q, f12_isHeadOf M a0 a1 a2 a3 = some q → Run i12_isHeadOf [vr a0, vi a1, vi a2, vi a3] M (Li q) := by
  obtain ⟨d0, d1, d4, d5, d8, d11, d12, d13, d14, d17, d18, d21, d22, d23, d24, d27, d28, d31, d32, d35, d36, -⟩ := dd12_isHeadOf
  refine Run_of_X (by decide) (Nat.le_of_ble_eq_true rfl) ?_
  show X Li i12_isHeadOf 0 [(0, vr a0), (1, vi a1), (2, vi a2), (3, vi a3)] [] M _
  unfold f12_isHeadOf
  refine X_aloadn 0 d0 rfl ?_
  refine X_getI d1 fg_x12_131 ?_
  refine X_iloadn 1 d4 rfl ?_
  refine X_cSi (as := [vi (mI M a0 5), vi a1]) d5 cs_x12_134 ⟨by decide, by decide⟩ rfl (Nat.le_of_ble_eq_true rfl) (T12_isOf M (mI M a0 5) a1) (fun r5 M5 _ => ?_)
  refine X_if_ne (t := 35) d8 rfl (fun h8 => ?_) (fun h8 => ?_)
  · refine X_aloadn 0 d11 rfl ?_
    refine X_iloadn 1 d12 rfl ?_
    refine X_iconst k_i_0 d13 ?_
    refine X_cVi (as := [vi a1, vi (0 : Int32)]) d14 cv_x12_138 ⟨by decide, by decide⟩ rfl (Nat.le_of_ble_eq_true rfl) (T12_ruleOf M5 a0 a1 (0 : Int32)) (fun r14 M14 _ => ?_)
    refine X_iloadn 2 d17 rfl ?_
    refine X_icmp_ne (t := 35) d18 rfl (fun h18 => ?_) (fun h18 => ?_)
    · refine X_aloadn 0 d21 rfl ?_
      refine X_iloadn 1 d22 rfl ?_
      refine X_iconst k_i_1 d23 ?_
      refine X_cVi (as := [vi a1, vi (1 : Int32)]) d24 cv_x12_138 ⟨by decide, by decide⟩ rfl (Nat.le_of_ble_eq_true rfl) (T12_ruleOf M14 a0 a1 (1 : Int32)) (fun r24 M24 _ => ?_)
      refine X_iloadn 3 d27 rfl ?_
      refine X_icmp_ne (t := 35) d28 rfl (fun h28 => ?_) (fun h28 => ?_)
      · refine X_iconst k_i_1 d31 ?_
        refine X_goto (t := 36) d32 rfl ?_
        exact X_zreturnc d36 rfl (by decide) rfl
      · refine X_iconst k_i_0 d35 ?_
        exact X_zreturnc d36 rfl (by decide) rfl
    · refine X_iconst k_i_0 d35 ?_
      exact X_zreturnc d36 rfl (by decide) rfl
  · refine X_iconst k_i_0 d35 ?_
    exact X_zreturnc d36 rfl (by decide) rfl

theorem dd12_allThatCan_b76 : AllD (ib i12_allThatCan) [(76, .iconst 0, 1)] := allD_of (by decide +kernel)
def f12_allThatCan_b76 (K77 : MM → Nat → Int32 → Int32 → Int32 → Option (Int32 × MM)) (M : MM) (a0 : Nat) (a2 : Int32) (s0 : Int32) : Option (Int32 × MM) :=
  K77 M a0 a2 (0 : Int32) s0
set_option maxRecDepth 4000 in
theorem T12_allThatCan_b76 {K77 : MM → Nat → Int32 → Int32 → Int32 → Option (Int32 × MM)} (hK77 : ∀ (M : MM) (a0 : Nat) (a2 : Int32) (s0 : Int32) (s1 : Int32), X Li i12_allThatCan 77 [(0, vr a0), (2, vi a2)] [vi s0, vi s1] M (K77 M a0 a2 s0 s1)) : ∀ (M : MM) (a0 : Nat) (a2 : Int32) (s0 : Int32), X Li i12_allThatCan 76 [(0, vr a0), (2, vi a2)] [vi s0] M (f12_allThatCan_b76 K77 M a0 a2 s0) := by
  obtain ⟨d76, -⟩ := dd12_allThatCan_b76
  intro M a0 a2 s0
  unfold f12_allThatCan_b76
  refine X_iconst k_i_0 d76 ?_
  exact hK77 M a0 a2 (0 : Int32) s0

theorem dd12_allThatCan_b77 : AllD (ib i12_allThatCan) [(77, .ior, 1), (78, .istore_n 1, 1), (79, .iinc 2 1, 3), (82, .goto (-78), 3)] := allD_of (by decide +kernel)
def f12_allThatCan_b77 (K4 : MM → Nat → Int32 → Int32 → Option (Int32 × MM)) (M : MM) (a0 : Nat) (a2 : Int32) (s0 : Int32) (s1 : Int32) : Option (Int32 × MM) :=
  bW (s1 ||| s0) fun v78 =>
  K4 M a0 v78 (a2 + (1 : Int32))
set_option maxRecDepth 4000 in
theorem T12_allThatCan_b77 {K4 : MM → Nat → Int32 → Int32 → Option (Int32 × MM)} (hK4 : ∀ (M : MM) (a0 : Nat) (a1 : Int32) (a2 : Int32), X Li i12_allThatCan 4 [(0, vr a0), (1, vi a1), (2, vi a2)] [] M (K4 M a0 a1 a2)) : ∀ (M : MM) (a0 : Nat) (a2 : Int32) (s0 : Int32) (s1 : Int32), X Li i12_allThatCan 77 [(0, vr a0), (2, vi a2)] [vi s0, vi s1] M (f12_allThatCan_b77 K4 M a0 a2 s0 s1) := by
  obtain ⟨d77, d78, d79, d82, -⟩ := dd12_allThatCan_b77
  intro M a0 a2 s0 s1
  unfold f12_allThatCan_b77
  refine X_ior d77 ?_
  refine X_bWi fun v78 _ => ?_
  refine X_istoren (lv' := [(1, vi v78), (0, vr a0), (2, vi a2)]) d78 (by decide) rfl ?_
  refine X_inc (lv' := [(2, vi (a2 + (1 : Int32))), (1, vi v78), (0, vr a0)]) 2 d79 k_i_1 rfl (by decide) rfl ?_
  refine X_goto (t := 4) d82 rfl ?_
  refine X_sub [2, 1, 0] rfl ?_
  exact hK4 M a0 v78 (a2 + (1 : Int32))

theorem dd12_allThatCan_b4 : AllD (ib i12_allThatCan) [(4, .iload_n 2, 1), (5, .aload_n 0, 1), (6, .getfield 7, 3), (9, .iconst 2, 1), (10, .iaload, 1), (11, .if_icmp .ge 74, 3), (14, .aload_n 0, 1), (15, .getfield 236, 3), (18, .ifCond .eq 67, 3), (21, .aload_n 0, 1), (22, .getfield 255, 3), (25, .ifCond .le 60, 3), (28, .iload_n 1, 1), (29, .aload_n 0, 1), (30, .iload_n 2, 1), (31, .aload_n 0, 1), (32, .getfield 252, 3), (35, .aload_n 0, 1), (36, .getfield 29, 3), (39, .aload_n 0, 1), (40, .getfield 255, 3), (43, .iconst 1, 1), (44, .isub, 1), (45, .iaload, 1), (46, .invokevirtual 268, 3), (49, .ifCond .eq 27, 3), (52, .aload_n 0, 1), (53, .getfield 255, 3), (56, .iconst 1, 1), (57, .isub, 1), (58, .aload_n 0, 1), (59, .iload_n 2, 1), (60, .iconst 3, 1), (61, .invokevirtual 138, 3), (64, .iadd, 1), (65, .bipush 40, 2), (67, .if_icmp .gt 9, 3), (70, .iconst 1, 1), (71, .iload_n 2, 1), (72, .ishl, 1), (73, .goto 4, 3), (85, .iload_n 1, 1), (86, .ireturn, 1)] := allD_of (by decide +kernel)
def f12_allThatCan_b4_body (rc : MM → Nat → Int32 → Int32 → Option (Int32 × MM)) (M : MM) (a0 : Nat) (a1 : Int32) (a2 : Int32) : Option (Int32 × MM) :=
  aO M a0 12 <|
  aA M (mR M a0 1) 0 (2 : Int32) <|
  if (mI M (mR M a0 1) (2 : Int32).toNatClampNeg) ≤ a2 then
    some (a1, M)
  else
    aO M a0 12 <|
    if (mI M a0 19) = 0 then
      some (a1, M)
    else
      aO M a0 12 <|
      if (mI M a0 21) ≤ 0 then
        some (a1, M)
      else
        aO M a0 12 <|
        aO M a0 12 <|
        aO M a0 12 <|
        aA M (mR M a0 17) 0 ((mI M a0 21) - (1 : Int32)) <|
        aO M a0 12 <|
        cI (f12_isHeadOf M a0 a2 (mI M a0 20) (mI M (mR M a0 17) ((mI M a0 21) - (1 : Int32)).toNatClampNeg)) fun r46 M46 =>
        if r46 = 0 then
          (f12_allThatCan_b76 (f12_allThatCan_b77 rc)) M46 a0 a2 a1
        else
          aO M46 a0 12 <|
          aO M46 a0 12 <|
          cI (f12_ruleOf M46 a0 a2 (3 : Int32)) fun r61 M61 =>
          if (40 : Int32) < (((mI M46 a0 21) - (1 : Int32)) + r61) then
            (f12_allThatCan_b76 (f12_allThatCan_b77 rc)) M61 a0 a2 a1
          else
            (f12_allThatCan_b77 rc) M61 a0 a2 ((1 : Int32) <<< (a2 &&& 31)) a1
def f12_allThatCan_b4 : MM → Nat → Int32 → Int32 → Option (Int32 × MM) := LP4 (f12_allThatCan_b4_body) FU
set_option maxRecDepth 4000 in
theorem T12_allThatCan_b4 : ∀ (M : MM) (a0 : Nat) (a1 : Int32) (a2 : Int32), X Li i12_allThatCan 4 [(0, vr a0), (1, vi a1), (2, vi a2)] [] M (f12_allThatCan_b4 M a0 a1 a2) := by
  obtain ⟨d4, d5, d6, d9, d10, d11, d14, d15, d18, d21, d22, d25, d28, d29, d30, d31, d32, d35, d36, d39, d40, d43, d44, d45, d46, d49, d52, d53, d56, d57, d58, d59, d60, d61, d64, d65, d67, d70, d71, d72, d73, d85, d86, -⟩ := dd12_allThatCan_b4
  refine LP4_i (P := fun M a0 a1 a2 o => X Li i12_allThatCan 4 [(0, vr a0), (1, vi a1), (2, vi a2)] [] M o) (fun _ _ _ _ => X_none) (fun rc ih M a0 a1 a2 => ?_) FU
  unfold f12_allThatCan_b4_body
  refine X_iloadn 2 d4 rfl ?_
  refine X_aloadn 0 d5 rfl ?_
  refine X_getR d6 fg_x12_7 ?_
  refine X_iconst k_i_2 d9 ?_
  refine X_iaload d10 ?_
  refine X_icmp_ge (t := 85) d11 rfl (fun h11 => ?_) (fun h11 => ?_)
  · refine X_iloadn 1 d85 rfl ?_
    exact X_ireturn d86 rfl rfl
  · refine X_aloadn 0 d14 rfl ?_
    refine X_getI d15 fg_x12_236 ?_
    refine X_if_eq (t := 85) d18 rfl (fun h18 => ?_) (fun h18 => ?_)
    · refine X_iloadn 1 d85 rfl ?_
      exact X_ireturn d86 rfl rfl
    · refine X_aloadn 0 d21 rfl ?_
      refine X_getI d22 fg_x12_255 ?_
      refine X_if_le (t := 85) d25 rfl (fun h25 => ?_) (fun h25 => ?_)
      · refine X_iloadn 1 d85 rfl ?_
        exact X_ireturn d86 rfl rfl
      · refine X_iloadn 1 d28 rfl ?_
        refine X_aloadn 0 d29 rfl ?_
        refine X_iloadn 2 d30 rfl ?_
        refine X_aloadn 0 d31 rfl ?_
        refine X_getI d32 fg_x12_252 ?_
        refine X_aloadn 0 d35 rfl ?_
        refine X_getR d36 fg_x12_29 ?_
        refine X_aloadn 0 d39 rfl ?_
        refine X_getI d40 fg_x12_255 ?_
        refine X_iconst k_i_1 d43 ?_
        refine X_isub d44 ?_
        refine X_iaload d45 ?_
        refine X_cVi (as := [vi a2, vi (mI M a0 20), vi (mI M (mR M a0 17) ((mI M a0 21) - (1 : Int32)).toNatClampNeg)]) d46 cv_x12_268 ⟨by decide, by decide⟩ rfl (Nat.le_of_ble_eq_true rfl) (T12_isHeadOf M a0 a2 (mI M a0 20) (mI M (mR M a0 17) ((mI M a0 21) - (1 : Int32)).toNatClampNeg)) (fun r46 M46 _ => ?_)
        refine X_if_eq (t := 76) d49 rfl (fun h49 => ?_) (fun h49 => ?_)
        · refine X_sub [0, 2] rfl ?_
          exact (T12_allThatCan_b76 (T12_allThatCan_b77 ih)) M46 a0 a2 a1
        · refine X_aloadn 0 d52 rfl ?_
          refine X_getI d53 fg_x12_255 ?_
          refine X_iconst k_i_1 d56 ?_
          refine X_isub d57 ?_
          refine X_aloadn 0 d58 rfl ?_
          refine X_iloadn 2 d59 rfl ?_
          refine X_iconst k_i_3 d60 ?_
          refine X_cVi (as := [vi a2, vi (3 : Int32)]) d61 cv_x12_138 ⟨by decide, by decide⟩ rfl (Nat.le_of_ble_eq_true rfl) (T12_ruleOf M46 a0 a2 (3 : Int32)) (fun r61 M61 _ => ?_)
          refine X_iadd d64 ?_
          refine X_bipush k_b_40 d65 ?_
          refine X_icmp_gt (t := 76) d67 rfl (fun h67 => ?_) (fun h67 => ?_)
          · refine X_sub [0, 2] rfl ?_
            exact (T12_allThatCan_b76 (T12_allThatCan_b77 ih)) M61 a0 a2 a1
          · refine X_iconst k_i_1 d70 ?_
            refine X_iloadn 2 d71 rfl ?_
            refine X_ishl d72 ?_
            refine X_goto (t := 77) d73 rfl ?_
            refine X_sub [0, 2] rfl ?_
            exact (T12_allThatCan_b77 ih) M61 a0 a2 ((1 : Int32) <<< (a2 &&& 31)) a1

theorem dd12_allThatCan : AllD (ib i12_allThatCan) [(0, .iconst 0, 1), (1, .istore_n 1, 1), (2, .iconst 0, 1), (3, .istore_n 2, 1)] := allD_of (by decide +kernel)
def f12_allThatCan (M : MM) (a0 : Nat) : Option (Int32 × MM) :=
  f12_allThatCan_b4 M a0 (0 : Int32) (0 : Int32)
set_option maxRecDepth 4000 in
theorem T12_allThatCan (M : MM) (a0 : Nat) : ∀ q, f12_allThatCan M a0 = some q → Run i12_allThatCan [vr a0] M (Li q) := by
  obtain ⟨d0, d1, d2, d3, -⟩ := dd12_allThatCan
  refine Run_of_X (by decide) (Nat.le_of_ble_eq_true rfl) ?_
  show X Li i12_allThatCan 0 [(0, vr a0)] [] M _
  unfold f12_allThatCan
  refine X_iconst k_i_0 d0 ?_
  refine X_istoren (lv' := [(1, vi (0 : Int32)), (0, vr a0)]) d1 (by decide) rfl ?_
  refine X_iconst k_i_0 d2 ?_
  refine X_istoren (lv' := [(2, vi (0 : Int32)), (1, vi (0 : Int32)), (0, vr a0)]) d3 (by decide) rfl ?_
  refine X_sub [2, 1, 0] rfl ?_
  exact T12_allThatCan_b4 M a0 (0 : Int32) (0 : Int32)

theorem dd12_signs : AllD (ib i12_signs) [(0, .aload_n 0, 1), (1, .getfield 7, 3), (4, .iconst 1, 1), (5, .iaload, 1), (6, .ireturn, 1)] := allD_of (by decide +kernel)
def f12_signs (M : MM) (a0 : Nat) : Option (Int32 × MM) :=
  aO M a0 12 <|
  aA M (mR M a0 1) 0 (1 : Int32) <|
  some (mI M (mR M a0 1) (1 : Int32).toNatClampNeg, M)
set_option maxRecDepth 4000 in
theorem T12_signs (M : MM) (a0 : Nat) : ∀ q, f12_signs M a0 = some q → Run i12_signs [vr a0] M (Li q) := by
  obtain ⟨d0, d1, d4, d5, d6, -⟩ := dd12_signs
  refine Run_of_X (by decide) (Nat.le_of_ble_eq_true rfl) ?_
  show X Li i12_signs 0 [(0, vr a0)] [] M _
  unfold f12_signs
  refine X_aloadn 0 d0 rfl ?_
  refine X_getR d1 fg_x12_7 ?_
  refine X_iconst k_i_1 d4 ?_
  refine X_iaload d5 ?_
  exact X_ireturn d6 rfl rfl

theorem dd12_areAlike_b19 : AllD (ib i12_areAlike) [(19, .iload_n 3, 1), (20, .aload_n 0, 1), (21, .invokevirtual 128, 3), (24, .if_icmp .ge 46, 3), (27, .aload_n 0, 1), (28, .getfield 95, 3), (31, .aload_n 0, 1), (32, .getfield 92, 3), (35, .bipush 6, 2), (37, .iload_n 1, 1), (38, .imul, 1), (39, .iload_n 3, 1), (40, .iadd, 1), (41, .iaload, 1), (42, .iaload, 1), (43, .aload_n 0, 1), (44, .getfield 95, 3), (47, .aload_n 0, 1), (48, .getfield 92, 3), (51, .bipush 6, 2), (53, .iload_n 2, 1), (54, .imul, 1), (55, .iload_n 3, 1), (56, .iadd, 1), (57, .iaload, 1), (58, .iaload, 1), (59, .if_icmp .eq 5, 3), (62, .iconst 0, 1), (63, .ireturn, 1), (64, .iinc 3 1, 3), (67, .goto (-48), 3), (70, .iconst 1, 1), (71, .ireturn, 1)] := allD_of (by decide +kernel)
def f12_areAlike_b19_body (rc : MM → Nat → Int32 → Int32 → Int32 → Option (Int32 × MM)) (M : MM) (a0 : Nat) (a1 : Int32) (a2 : Int32) (a3 : Int32) : Option (Int32 × MM) :=
  aO M a0 12 <|
  cI (f12_signs M a0) fun r21 M21 =>
  if r21 ≤ a3 then
    some ((1 : Int32), M21)
  else
    aO M21 a0 12 <|
    aO M21 a0 12 <|
    aA M21 (mR M21 a0 44) 0 (((6 : Int32) * a1) + a3) <|
    aA M21 (mR M21 a0 45) 0 (mI M21 (mR M21 a0 44) (((6 : Int32) * a1) + a3).toNatClampNeg) <|
    aO M21 a0 12 <|
    aO M21 a0 12 <|
    aA M21 (mR M21 a0 44) 0 (((6 : Int32) * a2) + a3) <|
    aA M21 (mR M21 a0 45) 0 (mI M21 (mR M21 a0 44) (((6 : Int32) * a2) + a3).toNatClampNeg) <|
    if (mI M21 (mR M21 a0 45) (mI M21 (mR M21 a0 44) (((6 : Int32) * a1) + a3).toNatClampNeg).toNatClampNeg) = (mI M21 (mR M21 a0 45) (mI M21 (mR M21 a0 44) (((6 : Int32) * a2) + a3).toNatClampNeg).toNatClampNeg) then
      rc M21 a0 a1 a2 (a3 + (1 : Int32))
    else
      some ((0 : Int32), M21)
def f12_areAlike_b19 : MM → Nat → Int32 → Int32 → Int32 → Option (Int32 × MM) := LP5 (f12_areAlike_b19_body) FU
set_option maxRecDepth 4000 in
theorem T12_areAlike_b19 : ∀ (M : MM) (a0 : Nat) (a1 : Int32) (a2 : Int32) (a3 : Int32), X Li i12_areAlike 19 [(0, vr a0), (1, vi a1), (2, vi a2), (3, vi a3)] [] M (f12_areAlike_b19 M a0 a1 a2 a3) := by
  obtain ⟨d19, d20, d21, d24, d27, d28, d31, d32, d35, d37, d38, d39, d40, d41, d42, d43, d44, d47, d48, d51, d53, d54, d55, d56, d57, d58, d59, d62, d63, d64, d67, d70, d71, -⟩ := dd12_areAlike_b19
  refine LP5_i (P := fun M a0 a1 a2 a3 o => X Li i12_areAlike 19 [(0, vr a0), (1, vi a1), (2, vi a2), (3, vi a3)] [] M o) (fun _ _ _ _ _ => X_none) (fun rc ih M a0 a1 a2 a3 => ?_) FU
  unfold f12_areAlike_b19_body
  refine X_iloadn 3 d19 rfl ?_
  refine X_aloadn 0 d20 rfl ?_
  refine X_cVi (as := []) d21 cv_x12_128 ⟨by decide, by decide⟩ rfl (Nat.le_of_ble_eq_true rfl) (T12_signs M a0) (fun r21 M21 _ => ?_)
  refine X_icmp_ge (t := 70) d24 rfl (fun h24 => ?_) (fun h24 => ?_)
  · refine X_iconst k_i_1 d70 ?_
    exact X_zreturnc d71 rfl (by decide) rfl
  · refine X_aloadn 0 d27 rfl ?_
    refine X_getR d28 fg_x12_95 ?_
    refine X_aloadn 0 d31 rfl ?_
    refine X_getR d32 fg_x12_92 ?_
    refine X_bipush k_b_6 d35 ?_
    refine X_iloadn 1 d37 rfl ?_
    refine X_imul d38 ?_
    refine X_iloadn 3 d39 rfl ?_
    refine X_iadd d40 ?_
    refine X_iaload d41 ?_
    refine X_iaload d42 ?_
    refine X_aloadn 0 d43 rfl ?_
    refine X_getR d44 fg_x12_95 ?_
    refine X_aloadn 0 d47 rfl ?_
    refine X_getR d48 fg_x12_92 ?_
    refine X_bipush k_b_6 d51 ?_
    refine X_iloadn 2 d53 rfl ?_
    refine X_imul d54 ?_
    refine X_iloadn 3 d55 rfl ?_
    refine X_iadd d56 ?_
    refine X_iaload d57 ?_
    refine X_iaload d58 ?_
    refine X_icmp_eq (t := 64) d59 rfl (fun h59 => ?_) (fun h59 => ?_)
    · refine X_inc (lv' := [(3, vi (a3 + (1 : Int32))), (0, vr a0), (1, vi a1), (2, vi a2)]) 3 d64 k_i_1 rfl (by decide) rfl ?_
      refine X_goto (t := 19) d67 rfl ?_
      refine X_sub [1, 2, 3, 0] rfl ?_
      exact ih M21 a0 a1 a2 (a3 + (1 : Int32))
    · refine X_iconst k_i_0 d62 ?_
      exact X_zreturnc d63 rfl (by decide) rfl

theorem dd12_areAlike : AllD (ib i12_areAlike) [(0, .aload_n 0, 1), (1, .getfield 95, 3), (4, .iload_n 1, 1), (5, .iaload, 1), (6, .aload_n 0, 1), (7, .getfield 95, 3), (10, .iload_n 2, 1), (11, .iaload, 1), (12, .if_icmp .eq 5, 3), (15, .iconst 0, 1), (16, .ireturn, 1), (17, .iconst 0, 1), (18, .istore_n 3, 1)] := allD_of (by decide +kernel)
def f12_areAlike (M : MM) (a0 : Nat) (a1 : Int32) (a2 : Int32) : Option (Int32 × MM) :=
  aO M a0 12 <|
  aA M (mR M a0 45) 0 a1 <|
  aO M a0 12 <|
  aA M (mR M a0 45) 0 a2 <|
  if (mI M (mR M a0 45) a1.toNatClampNeg) = (mI M (mR M a0 45) a2.toNatClampNeg) then
    f12_areAlike_b19 M a0 a1 a2 (0 : Int32)
  else
    some ((0 : Int32), M)
set_option maxRecDepth 4000 in
theorem T12_areAlike (M : MM) (a0 : Nat) (a1 : Int32) (a2 : Int32) : ∀ q, f12_areAlike M a0 a1 a2 = some q → Run i12_areAlike [vr a0, vi a1, vi a2] M (Li q) := by
  obtain ⟨d0, d1, d4, d5, d6, d7, d10, d11, d12, d15, d16, d17, d18, -⟩ := dd12_areAlike
  refine Run_of_X (by decide) (Nat.le_of_ble_eq_true rfl) ?_
  show X Li i12_areAlike 0 [(0, vr a0), (1, vi a1), (2, vi a2)] [] M _
  unfold f12_areAlike
  refine X_aloadn 0 d0 rfl ?_
  refine X_getR d1 fg_x12_95 ?_
  refine X_iloadn 1 d4 rfl ?_
  refine X_iaload d5 ?_
  refine X_aloadn 0 d6 rfl ?_
  refine X_getR d7 fg_x12_95 ?_
  refine X_iloadn 2 d10 rfl ?_
  refine X_iaload d11 ?_
  refine X_icmp_eq (t := 17) d12 rfl (fun h12 => ?_) (fun h12 => ?_)
  · refine X_iconst k_i_0 d17 ?_
    refine X_istoren (lv' := [(3, vi (0 : Int32)), (0, vr a0), (1, vi a1), (2, vi a2)]) d18 (by decide) rfl ?_
    refine X_sub [1, 2, 3, 0] rfl ?_
    exact T12_areAlike_b19 M a0 a1 a2 (0 : Int32)
  · refine X_iconst k_i_0 d15 ?_
    exact X_zreturnc d16 rfl (by decide) rfl

theorem dd12_byteAt : AllD (ib i12_byteAt) [(0, .iload_n 1, 1), (1, .aload_n 0, 1), (2, .getfield 149, 3), (5, .if_icmp .ge 12, 3), (8, .aload_n 0, 1), (9, .getfield 22, 3), (12, .iload_n 1, 1), (13, .iaload, 1), (14, .goto 4, 3), (17, .iconst (-1), 1), (18, .ireturn, 1)] := allD_of (by decide +kernel)
def f12_byteAt (M : MM) (a0 : Nat) (a1 : Int32) : Option (Int32 × MM) :=
  aO M a0 12 <|
  if (mI M a0 8) ≤ a1 then
    some ((-1 : Int32), M)
  else
    aO M a0 12 <|
    aA M (mR M a0 6) 0 a1 <|
    some (mI M (mR M a0 6) a1.toNatClampNeg, M)
set_option maxRecDepth 4000 in
theorem T12_byteAt (M : MM) (a0 : Nat) (a1 : Int32) : ∀ q, f12_byteAt M a0 a1 = some q → Run i12_byteAt [vr a0, vi a1] M (Li q) := by
  obtain ⟨d0, d1, d2, d5, d8, d9, d12, d13, d14, d17, d18, -⟩ := dd12_byteAt
  refine Run_of_X (by decide) (Nat.le_of_ble_eq_true rfl) ?_
  show X Li i12_byteAt 0 [(0, vr a0), (1, vi a1)] [] M _
  unfold f12_byteAt
  refine X_iloadn 1 d0 rfl ?_
  refine X_aloadn 0 d1 rfl ?_
  refine X_getI d2 fg_x12_149 ?_
  refine X_icmp_ge (t := 17) d5 rfl (fun h5 => ?_) (fun h5 => ?_)
  · refine X_iconst k_i_m1 d17 ?_
    exact X_ireturn d18 rfl rfl
  · refine X_aloadn 0 d8 rfl ?_
    refine X_getR d9 fg_x12_22 ?_
    refine X_iloadn 1 d12 rfl ?_
    refine X_iaload d13 ?_
    refine X_goto (t := 18) d14 rfl ?_
    exact X_ireturn d18 rfl rfl

theorem dd12_isSmall : AllD (ib i12_isSmall) [(0, .iload_n 0, 1), (1, .bipush 97, 2), (3, .if_icmp .lt 13, 3), (6, .iload_n 0, 1), (7, .bipush 122, 2), (9, .if_icmp .gt 7, 3), (12, .iconst 1, 1), (13, .goto 4, 3), (16, .iconst 0, 1), (17, .ireturn, 1)] := allD_of (by decide +kernel)
def f12_isSmall (M : MM) (a0 : Int32) : Option (Int32 × MM) :=
  if a0 < (97 : Int32) then
    some ((0 : Int32), M)
  else
    if (122 : Int32) < a0 then
      some ((0 : Int32), M)
    else
      some ((1 : Int32), M)
set_option maxRecDepth 4000 in
theorem T12_isSmall (M : MM) (a0 : Int32) : ∀ q, f12_isSmall M a0 = some q → Run i12_isSmall [vi a0] M (Li q) := by
  obtain ⟨d0, d1, d3, d6, d7, d9, d12, d13, d16, d17, -⟩ := dd12_isSmall
  refine Run_of_X (by decide) (Nat.le_of_ble_eq_true rfl) ?_
  show X Li i12_isSmall 0 [(0, vi a0)] [] M _
  unfold f12_isSmall
  refine X_iloadn 0 d0 rfl ?_
  refine X_bipush k_b_97 d1 ?_
  refine X_icmp_lt (t := 16) d3 rfl (fun h3 => ?_) (fun h3 => ?_)
  · refine X_iconst k_i_0 d16 ?_
    exact X_zreturnc d17 rfl (by decide) rfl
  · refine X_iloadn 0 d6 rfl ?_
    refine X_bipush k_b_122 d7 ?_
    refine X_icmp_gt (t := 16) d9 rfl (fun h9 => ?_) (fun h9 => ?_)
    · refine X_iconst k_i_0 d16 ?_
      exact X_zreturnc d17 rfl (by decide) rfl
    · refine X_iconst k_i_1 d12 ?_
      refine X_goto (t := 17) d13 rfl ?_
      exact X_zreturnc d17 rfl (by decide) rfl

theorem dd12_isDigit : AllD (ib i12_isDigit) [(0, .iload_n 0, 1), (1, .bipush 48, 2), (3, .if_icmp .lt 13, 3), (6, .iload_n 0, 1), (7, .bipush 57, 2), (9, .if_icmp .gt 7, 3), (12, .iconst 1, 1), (13, .goto 4, 3), (16, .iconst 0, 1), (17, .ireturn, 1)] := allD_of (by decide +kernel)
def f12_isDigit (M : MM) (a0 : Int32) : Option (Int32 × MM) :=
  if a0 < (48 : Int32) then
    some ((0 : Int32), M)
  else
    if (57 : Int32) < a0 then
      some ((0 : Int32), M)
    else
      some ((1 : Int32), M)
set_option maxRecDepth 4000 in
theorem T12_isDigit (M : MM) (a0 : Int32) : ∀ q, f12_isDigit M a0 = some q → Run i12_isDigit [vi a0] M (Li q) := by
  obtain ⟨d0, d1, d3, d6, d7, d9, d12, d13, d16, d17, -⟩ := dd12_isDigit
  refine Run_of_X (by decide) (Nat.le_of_ble_eq_true rfl) ?_
  show X Li i12_isDigit 0 [(0, vi a0)] [] M _
  unfold f12_isDigit
  refine X_iloadn 0 d0 rfl ?_
  refine X_bipush k_b_48 d1 ?_
  refine X_icmp_lt (t := 16) d3 rfl (fun h3 => ?_) (fun h3 => ?_)
  · refine X_iconst k_i_0 d16 ?_
    exact X_zreturnc d17 rfl (by decide) rfl
  · refine X_iloadn 0 d6 rfl ?_
    refine X_bipush k_b_57 d7 ?_
    refine X_icmp_gt (t := 16) d9 rfl (fun h9 => ?_) (fun h9 => ?_)
    · refine X_iconst k_i_0 d16 ?_
      exact X_zreturnc d17 rfl (by decide) rfl
    · refine X_iconst k_i_1 d12 ?_
      refine X_goto (t := 17) d13 rfl ?_
      exact X_zreturnc d17 rfl (by decide) rfl

theorem dd12_nextToken_b26 : AllD (ib i12_nextToken) [(26, .aload_n 0, 1), (27, .dup, 1), (28, .getfield 152, 3), (31, .iconst 1, 1), (32, .iadd, 1), (33, .putfield 152, 3), (36, .goto (-36), 3)] := allD_of (by decide +kernel)
def f12_nextToken_b26 (K0 : MM → Nat → Option MM) (M : MM) (a0 : Nat) : Option MM :=
  aO M a0 12 <|
  aO M a0 12 <|
  bM (sI M a0 10 ((mI M a0 10) + (1 : Int32))) fun M33 =>
  K0 M33 a0
set_option maxRecDepth 4000 in
theorem T12_nextToken_b26 {K0 : MM → Nat → Option MM} (hK0 : ∀ (M : MM) (a0 : Nat), X Lv i12_nextToken 0 [(0, vr a0)] [] M (K0 M a0)) : ∀ (M : MM) (a0 : Nat), X Lv i12_nextToken 26 [(0, vr a0)] [] M (f12_nextToken_b26 K0 M a0) := by
  obtain ⟨d26, d27, d28, d31, d32, d33, d36, -⟩ := dd12_nextToken_b26
  intro M a0
  unfold f12_nextToken_b26
  refine X_aloadn 0 d26 rfl ?_
  refine X_dupr d27 ?_
  refine X_getI d28 fg_x12_152 ?_
  refine X_iconst k_i_1 d31 ?_
  refine X_iadd d32 ?_
  refine X_putI d33 fp_x12_152 ?_
  refine X_bM fun M33 _ => ?_
  refine X_goto (t := 0) d36 rfl ?_
  exact hK0 M33 a0

theorem dd12_nextToken_b133 : AllD (ib i12_nextToken) [(133, .putfield 162, 3), (136, .aload_n 0, 1), (137, .dup, 1), (138, .getfield 152, 3), (141, .iconst 1, 1), (142, .iadd, 1), (143, .putfield 152, 3), (146, .goto (-65), 3)] := allD_of (by decide +kernel)
def f12_nextToken_b133 (K81 : MM → Nat → Option MM) (M : MM) (a0 : Nat) (s0 : Int32) (s1 : Nat) : Option MM :=
  aO M s1 12 <|
  bM (sI M s1 12 s0) fun M133 =>
  aO M133 a0 12 <|
  aO M133 a0 12 <|
  bM (sI M133 a0 10 ((mI M133 a0 10) + (1 : Int32))) fun M143 =>
  K81 M143 a0
set_option maxRecDepth 4000 in
theorem T12_nextToken_b133 {K81 : MM → Nat → Option MM} (hK81 : ∀ (M : MM) (a0 : Nat), X Lv i12_nextToken 81 [(0, vr a0)] [] M (K81 M a0)) : ∀ (M : MM) (a0 : Nat) (s0 : Int32) (s1 : Nat), X Lv i12_nextToken 133 [(0, vr a0)] [vi s0, vr s1] M (f12_nextToken_b133 K81 M a0 s0 s1) := by
  obtain ⟨d133, d136, d137, d138, d141, d142, d143, d146, -⟩ := dd12_nextToken_b133
  intro M a0 s0 s1
  unfold f12_nextToken_b133
  refine X_putI d133 fp_x12_162 ?_
  refine X_bM fun M133 _ => ?_
  refine X_aloadn 0 d136 rfl ?_
  refine X_dupr d137 ?_
  refine X_getI d138 fg_x12_152 ?_
  refine X_iconst k_i_1 d141 ?_
  refine X_iadd d142 ?_
  refine X_putI d143 fp_x12_152 ?_
  refine X_bM fun M143 _ => ?_
  refine X_goto (t := 81) d146 rfl ?_
  exact hK81 M143 a0

theorem dd12_nextToken_b169 : AllD (ib i12_nextToken) [(169, .putfield 165, 3), (172, .goto 141, 3), (313, .return_, 1)] := allD_of (by decide +kernel)
def f12_nextToken_b169 (M : MM) (s0 : Int32) (s1 : Nat) : Option MM :=
  aO M s1 12 <|
  bM (sI M s1 11 s0) fun M169 =>
  some M169
set_option maxRecDepth 4000 in
theorem T12_nextToken_b169 : ∀ (M : MM) (s0 : Int32) (s1 : Nat), X Lv i12_nextToken 169 [] [vi s0, vr s1] M (f12_nextToken_b169 M s0 s1) := by
  obtain ⟨d169, d172, d313, -⟩ := dd12_nextToken_b169
  intro M s0 s1
  unfold f12_nextToken_b169
  refine X_putI d169 fp_x12_165 ?_
  refine X_bM fun M169 _ => ?_
  refine X_goto (t := 313) d172 rfl ?_
  exact X_vreturn d313 rfl rfl

theorem dd12_nextToken_b81 : AllD (ib i12_nextToken) [(81, .aload_n 0, 1), (82, .aload_n 0, 1), (83, .getfield 152, 3), (86, .invokevirtual 155, 3), (89, .invokestatic 168, 3), (92, .ifCond .eq 57, 3), (95, .aload_n 0, 1), (96, .aload_n 0, 1), (97, .getfield 152, 3), (100, .aload_n 0, 1), (101, .getfield 159, 3), (104, .isub, 1), (105, .bipush 6, 2), (107, .if_icmp .ge 25, 3), (110, .aload_n 0, 1), (111, .getfield 162, 3), (114, .bipush 32, 2), (116, .imul, 1), (117, .aload_n 0, 1), (118, .aload_n 0, 1), (119, .getfield 152, 3), (122, .invokevirtual 155, 3), (125, .iadd, 1), (126, .bipush 96, 2), (128, .isub, 1), (129, .goto 4, 3), (132, .iconst (-1), 1), (149, .aload_n 0, 1), (150, .aload_n 0, 1), (151, .getfield 152, 3), (154, .aload_n 0, 1), (155, .getfield 159, 3), (158, .isub, 1), (159, .bipush 6, 2), (161, .if_icmp .le 7, 3), (164, .iconst 4, 1), (165, .goto 4, 3), (168, .iconst 1, 1)] := allD_of (by decide +kernel)
def f12_nextToken_b81_body (rc : MM → Nat → Option MM) (M : MM) (a0 : Nat) : Option MM :=
  aO M a0 12 <|
  aO M a0 12 <|
  cI (f12_byteAt M a0 (mI M a0 10)) fun r86 M86 =>
  cI (f12_isSmall M86 r86) fun r89 M89 =>
  if r89 = 0 then
    aO M89 a0 12 <|
    aO M89 a0 12 <|
    if ((mI M89 a0 10) - (mI M89 a0 9)) ≤ (6 : Int32) then
      f12_nextToken_b169 M89 (1 : Int32) a0
    else
      f12_nextToken_b169 M89 (4 : Int32) a0
  else
    aO M89 a0 12 <|
    aO M89 a0 12 <|
    if (6 : Int32) ≤ ((mI M89 a0 10) - (mI M89 a0 9)) then
      (f12_nextToken_b133 rc) M89 a0 (-1 : Int32) a0
    else
      aO M89 a0 12 <|
      aO M89 a0 12 <|
      aO M89 a0 12 <|
      cI (f12_byteAt M89 a0 (mI M89 a0 10)) fun r122 M122 =>
      (f12_nextToken_b133 rc) M122 a0 ((((mI M89 a0 12) * (32 : Int32)) + r122) - (96 : Int32)) a0
def f12_nextToken_b81 : MM → Nat → Option MM := LP2 (f12_nextToken_b81_body) FU
set_option maxRecDepth 4000 in
theorem T12_nextToken_b81 : ∀ (M : MM) (a0 : Nat), X Lv i12_nextToken 81 [(0, vr a0)] [] M (f12_nextToken_b81 M a0) := by
  obtain ⟨d81, d82, d83, d86, d89, d92, d95, d96, d97, d100, d101, d104, d105, d107, d110, d111, d114, d116, d117, d118, d119, d122, d125, d126, d128, d129, d132, d149, d150, d151, d154, d155, d158, d159, d161, d164, d165, d168, -⟩ := dd12_nextToken_b81
  refine LP2_i (P := fun M a0 o => X Lv i12_nextToken 81 [(0, vr a0)] [] M o) (fun _ _ => X_none) (fun rc ih M a0 => ?_) FU
  unfold f12_nextToken_b81_body
  refine X_aloadn 0 d81 rfl ?_
  refine X_aloadn 0 d82 rfl ?_
  refine X_getI d83 fg_x12_152 ?_
  refine X_cVi (as := [vi (mI M a0 10)]) d86 cv_x12_155 ⟨by decide, by decide⟩ rfl (Nat.le_of_ble_eq_true rfl) (T12_byteAt M a0 (mI M a0 10)) (fun r86 M86 _ => ?_)
  refine X_cSi (as := [vi r86]) d89 cs_x12_168 ⟨by decide, by decide⟩ rfl (Nat.le_of_ble_eq_true rfl) (T12_isSmall M86 r86) (fun r89 M89 _ => ?_)
  refine X_if_eq (t := 149) d92 rfl (fun h92 => ?_) (fun h92 => ?_)
  · refine X_aloadn 0 d149 rfl ?_
    refine X_aloadn 0 d150 rfl ?_
    refine X_getI d151 fg_x12_152 ?_
    refine X_aloadn 0 d154 rfl ?_
    refine X_getI d155 fg_x12_159 ?_
    refine X_isub d158 ?_
    refine X_bipush k_b_6 d159 ?_
    refine X_icmp_le (t := 168) d161 rfl (fun h161 => ?_) (fun h161 => ?_)
    · refine X_iconst k_i_1 d168 ?_
      refine X_sub [] rfl ?_
      exact T12_nextToken_b169 M89 (1 : Int32) a0
    · refine X_iconst k_i_4 d164 ?_
      refine X_goto (t := 169) d165 rfl ?_
      refine X_sub [] rfl ?_
      exact T12_nextToken_b169 M89 (4 : Int32) a0
  · refine X_aloadn 0 d95 rfl ?_
    refine X_aloadn 0 d96 rfl ?_
    refine X_getI d97 fg_x12_152 ?_
    refine X_aloadn 0 d100 rfl ?_
    refine X_getI d101 fg_x12_159 ?_
    refine X_isub d104 ?_
    refine X_bipush k_b_6 d105 ?_
    refine X_icmp_ge (t := 132) d107 rfl (fun h107 => ?_) (fun h107 => ?_)
    · refine X_iconst k_i_m1 d132 ?_
      exact (T12_nextToken_b133 ih) M89 a0 (-1 : Int32) a0
    · refine X_aloadn 0 d110 rfl ?_
      refine X_getI d111 fg_x12_162 ?_
      refine X_bipush k_b_32 d114 ?_
      refine X_imul d116 ?_
      refine X_aloadn 0 d117 rfl ?_
      refine X_aloadn 0 d118 rfl ?_
      refine X_getI d119 fg_x12_152 ?_
      refine X_cVi (as := [vi (mI M89 a0 10)]) d122 cv_x12_155 ⟨by decide, by decide⟩ rfl (Nat.le_of_ble_eq_true rfl) (T12_byteAt M89 a0 (mI M89 a0 10)) (fun r122 M122 _ => ?_)
      refine X_iadd d125 ?_
      refine X_bipush k_b_96 d126 ?_
      refine X_isub d128 ?_
      refine X_goto (t := 133) d129 rfl ?_
      exact (T12_nextToken_b133 ih) M122 a0 ((((mI M89 a0 12) * (32 : Int32)) + r122) - (96 : Int32)) a0

theorem dd12_nextToken_b233 : AllD (ib i12_nextToken) [(233, .putfield 162, 3), (236, .aload_n 0, 1), (237, .dup, 1), (238, .getfield 152, 3), (241, .iconst 1, 1), (242, .iadd, 1), (243, .putfield 152, 3), (246, .goto (-64), 3)] := allD_of (by decide +kernel)
def f12_nextToken_b233 (K182 : MM → Nat → Option MM) (M : MM) (a0 : Nat) (s0 : Int32) (s1 : Nat) : Option MM :=
  aO M s1 12 <|
  bM (sI M s1 12 s0) fun M233 =>
  aO M233 a0 12 <|
  aO M233 a0 12 <|
  bM (sI M233 a0 10 ((mI M233 a0 10) + (1 : Int32))) fun M243 =>
  K182 M243 a0
set_option maxRecDepth 4000 in
theorem T12_nextToken_b233 {K182 : MM → Nat → Option MM} (hK182 : ∀ (M : MM) (a0 : Nat), X Lv i12_nextToken 182 [(0, vr a0)] [] M (K182 M a0)) : ∀ (M : MM) (a0 : Nat) (s0 : Int32) (s1 : Nat), X Lv i12_nextToken 233 [(0, vr a0)] [vi s0, vr s1] M (f12_nextToken_b233 K182 M a0 s0 s1) := by
  obtain ⟨d233, d236, d237, d238, d241, d242, d243, d246, -⟩ := dd12_nextToken_b233
  intro M a0 s0 s1
  unfold f12_nextToken_b233
  refine X_putI d233 fp_x12_162 ?_
  refine X_bM fun M233 _ => ?_
  refine X_aloadn 0 d236 rfl ?_
  refine X_dupr d237 ?_
  refine X_getI d238 fg_x12_152 ?_
  refine X_iconst k_i_1 d241 ?_
  refine X_iadd d242 ?_
  refine X_putI d243 fp_x12_152 ?_
  refine X_bM fun M243 _ => ?_
  refine X_goto (t := 182) d246 rfl ?_
  exact hK182 M243 a0

theorem dd12_nextToken_b277 : AllD (ib i12_nextToken) [(277, .iconst 4, 1), (278, .goto 4, 3)] := allD_of (by decide +kernel)
def f12_nextToken_b277 (K282 : MM → Int32 → Nat → Option MM) (M : MM) (s0 : Nat) : Option MM :=
  K282 M (4 : Int32) s0
set_option maxRecDepth 4000 in
theorem T12_nextToken_b277 {K282 : MM → Int32 → Nat → Option MM} (hK282 : ∀ (M : MM) (s0 : Int32) (s1 : Nat), X Lv i12_nextToken 282 [] [vi s0, vr s1] M (K282 M s0 s1)) : ∀ (M : MM) (s0 : Nat), X Lv i12_nextToken 277 [] [vr s0] M (f12_nextToken_b277 K282 M s0) := by
  obtain ⟨d277, d278, -⟩ := dd12_nextToken_b277
  intro M s0
  unfold f12_nextToken_b277
  refine X_iconst k_i_4 d277 ?_
  refine X_goto (t := 282) d278 rfl ?_
  exact hK282 M (4 : Int32) s0

theorem dd12_nextToken_b282 : AllD (ib i12_nextToken) [(282, .putfield 165, 3), (285, .goto 28, 3), (313, .return_, 1)] := allD_of (by decide +kernel)
def f12_nextToken_b282 (M : MM) (s0 : Int32) (s1 : Nat) : Option MM :=
  aO M s1 12 <|
  bM (sI M s1 11 s0) fun M282 =>
  some M282
set_option maxRecDepth 4000 in
theorem T12_nextToken_b282 : ∀ (M : MM) (s0 : Int32) (s1 : Nat), X Lv i12_nextToken 282 [] [vi s0, vr s1] M (f12_nextToken_b282 M s0 s1) := by
  obtain ⟨d282, d285, d313, -⟩ := dd12_nextToken_b282
  intro M s0 s1
  unfold f12_nextToken_b282
  refine X_putI d282 fp_x12_165 ?_
  refine X_bM fun M282 _ => ?_
  refine X_goto (t := 313) d285 rfl ?_
  exact X_vreturn d313 rfl rfl

theorem dd12_nextToken_b182 : AllD (ib i12_nextToken) [(182, .aload_n 0, 1), (183, .aload_n 0, 1), (184, .getfield 152, 3), (187, .invokevirtual 155, 3), (190, .invokestatic 172, 3), (193, .ifCond .eq 56, 3), (196, .aload_n 0, 1), (197, .aload_n 0, 1), (198, .getfield 162, 3), (201, .sipush 9999, 3), (204, .if_icmp .le 10, 3), (207, .aload_n 0, 1), (208, .getfield 162, 3), (211, .goto 22, 3), (214, .aload_n 0, 1), (215, .getfield 162, 3), (218, .bipush 10, 2), (220, .imul, 1), (221, .aload_n 0, 1), (222, .aload_n 0, 1), (223, .getfield 152, 3), (226, .invokevirtual 155, 3), (229, .iadd, 1), (230, .bipush 48, 2), (232, .isub, 1), (249, .aload_n 0, 1), (250, .aload_n 0, 1), (251, .getfield 152, 3), (254, .aload_n 0, 1), (255, .getfield 159, 3), (258, .isub, 1), (259, .iconst 3, 1), (260, .if_icmp .gt 17, 3), (263, .aload_n 0, 1), (264, .aload_n 0, 1), (265, .getfield 152, 3), (268, .invokevirtual 155, 3), (271, .invokestatic 168, 3), (274, .ifCond .eq 7, 3), (281, .iconst 2, 1)] := allD_of (by decide +kernel)
def f12_nextToken_b182_body (rc : MM → Nat → Option MM) (M : MM) (a0 : Nat) : Option MM :=
  aO M a0 12 <|
  aO M a0 12 <|
  cI (f12_byteAt M a0 (mI M a0 10)) fun r187 M187 =>
  cI (f12_isDigit M187 r187) fun r190 M190 =>
  if r190 = 0 then
    aO M190 a0 12 <|
    aO M190 a0 12 <|
    if (3 : Int32) < ((mI M190 a0 10) - (mI M190 a0 9)) then
      (f12_nextToken_b277 f12_nextToken_b282) M190 a0
    else
      aO M190 a0 12 <|
      aO M190 a0 12 <|
      cI (f12_byteAt M190 a0 (mI M190 a0 10)) fun r268 M268 =>
      cI (f12_isSmall M268 r268) fun r271 M271 =>
      if r271 = 0 then
        f12_nextToken_b282 M271 (2 : Int32) a0
      else
        (f12_nextToken_b277 f12_nextToken_b282) M271 a0
  else
    aO M190 a0 12 <|
    if (mI M190 a0 12) ≤ (9999 : Int32) then
      aO M190 a0 12 <|
      aO M190 a0 12 <|
      aO M190 a0 12 <|
      cI (f12_byteAt M190 a0 (mI M190 a0 10)) fun r226 M226 =>
      (f12_nextToken_b233 rc) M226 a0 ((((mI M190 a0 12) * (10 : Int32)) + r226) - (48 : Int32)) a0
    else
      aO M190 a0 12 <|
      (f12_nextToken_b233 rc) M190 a0 (mI M190 a0 12) a0
def f12_nextToken_b182 : MM → Nat → Option MM := LP2 (f12_nextToken_b182_body) FU
set_option maxRecDepth 4000 in
theorem T12_nextToken_b182 : ∀ (M : MM) (a0 : Nat), X Lv i12_nextToken 182 [(0, vr a0)] [] M (f12_nextToken_b182 M a0) := by
  obtain ⟨d182, d183, d184, d187, d190, d193, d196, d197, d198, d201, d204, d207, d208, d211, d214, d215, d218, d220, d221, d222, d223, d226, d229, d230, d232, d249, d250, d251, d254, d255, d258, d259, d260, d263, d264, d265, d268, d271, d274, d281, -⟩ := dd12_nextToken_b182
  refine LP2_i (P := fun M a0 o => X Lv i12_nextToken 182 [(0, vr a0)] [] M o) (fun _ _ => X_none) (fun rc ih M a0 => ?_) FU
  unfold f12_nextToken_b182_body
  refine X_aloadn 0 d182 rfl ?_
  refine X_aloadn 0 d183 rfl ?_
  refine X_getI d184 fg_x12_152 ?_
  refine X_cVi (as := [vi (mI M a0 10)]) d187 cv_x12_155 ⟨by decide, by decide⟩ rfl (Nat.le_of_ble_eq_true rfl) (T12_byteAt M a0 (mI M a0 10)) (fun r187 M187 _ => ?_)
  refine X_cSi (as := [vi r187]) d190 cs_x12_172 ⟨by decide, by decide⟩ rfl (Nat.le_of_ble_eq_true rfl) (T12_isDigit M187 r187) (fun r190 M190 _ => ?_)
  refine X_if_eq (t := 249) d193 rfl (fun h193 => ?_) (fun h193 => ?_)
  · refine X_aloadn 0 d249 rfl ?_
    refine X_aloadn 0 d250 rfl ?_
    refine X_getI d251 fg_x12_152 ?_
    refine X_aloadn 0 d254 rfl ?_
    refine X_getI d255 fg_x12_159 ?_
    refine X_isub d258 ?_
    refine X_iconst k_i_3 d259 ?_
    refine X_icmp_gt (t := 277) d260 rfl (fun h260 => ?_) (fun h260 => ?_)
    · refine X_sub [] rfl ?_
      exact (T12_nextToken_b277 T12_nextToken_b282) M190 a0
    · refine X_aloadn 0 d263 rfl ?_
      refine X_aloadn 0 d264 rfl ?_
      refine X_getI d265 fg_x12_152 ?_
      refine X_cVi (as := [vi (mI M190 a0 10)]) d268 cv_x12_155 ⟨by decide, by decide⟩ rfl (Nat.le_of_ble_eq_true rfl) (T12_byteAt M190 a0 (mI M190 a0 10)) (fun r268 M268 _ => ?_)
      refine X_cSi (as := [vi r268]) d271 cs_x12_168 ⟨by decide, by decide⟩ rfl (Nat.le_of_ble_eq_true rfl) (T12_isSmall M268 r268) (fun r271 M271 _ => ?_)
      refine X_if_eq (t := 281) d274 rfl (fun h274 => ?_) (fun h274 => ?_)
      · refine X_iconst k_i_2 d281 ?_
        refine X_sub [] rfl ?_
        exact T12_nextToken_b282 M271 (2 : Int32) a0
      · refine X_sub [] rfl ?_
        exact (T12_nextToken_b277 T12_nextToken_b282) M271 a0
  · refine X_aloadn 0 d196 rfl ?_
    refine X_aloadn 0 d197 rfl ?_
    refine X_getI d198 fg_x12_162 ?_
    refine X_sipush k_s_9999 d201 ?_
    refine X_icmp_le (t := 214) d204 rfl (fun h204 => ?_) (fun h204 => ?_)
    · refine X_aloadn 0 d214 rfl ?_
      refine X_getI d215 fg_x12_162 ?_
      refine X_bipush k_b_10 d218 ?_
      refine X_imul d220 ?_
      refine X_aloadn 0 d221 rfl ?_
      refine X_aloadn 0 d222 rfl ?_
      refine X_getI d223 fg_x12_152 ?_
      refine X_cVi (as := [vi (mI M190 a0 10)]) d226 cv_x12_155 ⟨by decide, by decide⟩ rfl (Nat.le_of_ble_eq_true rfl) (T12_byteAt M190 a0 (mI M190 a0 10)) (fun r226 M226 _ => ?_)
      refine X_iadd d229 ?_
      refine X_bipush k_b_48 d230 ?_
      refine X_isub d232 ?_
      exact (T12_nextToken_b233 ih) M226 a0 ((((mI M190 a0 12) * (10 : Int32)) + r226) - (48 : Int32)) a0
    · refine X_aloadn 0 d207 rfl ?_
      refine X_getI d208 fg_x12_162 ?_
      refine X_goto (t := 233) d211 rfl ?_
      exact (T12_nextToken_b233 ih) M190 a0 (mI M190 a0 12) a0

theorem dd12_nextToken_b0 : AllD (ib i12_nextToken) [(0, .aload_n 0, 1), (1, .aload_n 0, 1), (2, .getfield 152, 3), (5, .invokevirtual 155, 3), (8, .bipush 32, 2), (10, .if_icmp .eq 16, 3), (13, .aload_n 0, 1), (14, .aload_n 0, 1), (15, .getfield 152, 3), (18, .invokevirtual 155, 3), (21, .bipush 10, 2), (23, .if_icmp .ne 16, 3), (39, .aload_n 0, 1), (40, .aload_n 0, 1), (41, .getfield 152, 3), (44, .putfield 159, 3), (47, .aload_n 0, 1), (48, .aload_n 0, 1), (49, .getfield 159, 3), (52, .invokevirtual 155, 3), (55, .istore_n 1, 1), (56, .aload_n 0, 1), (57, .iconst 0, 1), (58, .putfield 162, 3), (61, .iload_n 1, 1), (62, .iconst (-1), 1), (63, .if_icmp .ne 11, 3), (66, .aload_n 0, 1), (67, .iconst 0, 1), (68, .putfield 165, 3), (71, .goto 242, 3), (74, .iload_n 1, 1), (75, .invokestatic 168, 3), (78, .ifCond .eq 97, 3), (175, .iload_n 1, 1), (176, .invokestatic 172, 3), (179, .ifCond .eq 109, 3), (288, .aload_n 0, 1), (289, .dup, 1), (290, .getfield 152, 3), (293, .iconst 1, 1), (294, .iadd, 1), (295, .putfield 152, 3), (298, .aload_n 0, 1), (299, .iload_n 1, 1), (300, .bipush 59, 2), (302, .if_icmp .ne 7, 3), (305, .iconst 3, 1), (306, .goto 4, 3), (309, .iconst 4, 1), (310, .putfield 165, 3), (313, .return_, 1)] := allD_of (by decide +kernel)
def f12_nextToken_b0_body (rc : MM → Nat → Option MM) (M : MM) (a0 : Nat) : Option MM :=
  aO M a0 12 <|
  aO M a0 12 <|
  cI (f12_byteAt M a0 (mI M a0 10)) fun r5 M5 =>
  if r5 = (32 : Int32) then
    (f12_nextToken_b26 rc) M5 a0
  else
    aO M5 a0 12 <|
    aO M5 a0 12 <|
    cI (f12_byteAt M5 a0 (mI M5 a0 10)) fun r18 M18 =>
    if r18 = (10 : Int32) then
      (f12_nextToken_b26 rc) M18 a0
    else
      aO M18 a0 12 <|
      aO M18 a0 12 <|
      bM (sI M18 a0 9 (mI M18 a0 10)) fun M44 =>
      aO M44 a0 12 <|
      aO M44 a0 12 <|
      cI (f12_byteAt M44 a0 (mI M44 a0 9)) fun r52 M52 =>
      aO M52 a0 12 <|
      bM (sI M52 a0 12 (0 : Int32)) fun M58 =>
      if r52 = (-1 : Int32) then
        aO M58 a0 12 <|
        bM (sI M58 a0 11 (0 : Int32)) fun M68 =>
        some M68
      else
        cI (f12_isSmall M58 r52) fun r75 M75 =>
        if r75 = 0 then
          cI (f12_isDigit M75 r52) fun r176 M176 =>
          if r176 = 0 then
            aO M176 a0 12 <|
            aO M176 a0 12 <|
            bM (sI M176 a0 10 ((mI M176 a0 10) + (1 : Int32))) fun M295 =>
            if r52 = (59 : Int32) then
              aO M295 a0 12 <|
              bM (sI M295 a0 11 (3 : Int32)) fun M310 =>
              some M310
            else
              aO M295 a0 12 <|
              bM (sI M295 a0 11 (4 : Int32)) fun M310 =>
              some M310
          else
            f12_nextToken_b182 M176 a0
        else
          f12_nextToken_b81 M75 a0
def f12_nextToken_b0 : MM → Nat → Option MM := LP2 (f12_nextToken_b0_body) FU
set_option maxRecDepth 4000 in
theorem T12_nextToken_b0 : ∀ (M : MM) (a0 : Nat), X Lv i12_nextToken 0 [(0, vr a0)] [] M (f12_nextToken_b0 M a0) := by
  obtain ⟨d0, d1, d2, d5, d8, d10, d13, d14, d15, d18, d21, d23, d39, d40, d41, d44, d47, d48, d49, d52, d55, d56, d57, d58, d61, d62, d63, d66, d67, d68, d71, d74, d75, d78, d175, d176, d179, d288, d289, d290, d293, d294, d295, d298, d299, d300, d302, d305, d306, d309, d310, d313, -⟩ := dd12_nextToken_b0
  refine LP2_i (P := fun M a0 o => X Lv i12_nextToken 0 [(0, vr a0)] [] M o) (fun _ _ => X_none) (fun rc ih M a0 => ?_) FU
  unfold f12_nextToken_b0_body
  refine X_aloadn 0 d0 rfl ?_
  refine X_aloadn 0 d1 rfl ?_
  refine X_getI d2 fg_x12_152 ?_
  refine X_cVi (as := [vi (mI M a0 10)]) d5 cv_x12_155 ⟨by decide, by decide⟩ rfl (Nat.le_of_ble_eq_true rfl) (T12_byteAt M a0 (mI M a0 10)) (fun r5 M5 _ => ?_)
  refine X_bipush k_b_32 d8 ?_
  refine X_icmp_eq (t := 26) d10 rfl (fun h10 => ?_) (fun h10 => ?_)
  · exact (T12_nextToken_b26 ih) M5 a0
  · refine X_aloadn 0 d13 rfl ?_
    refine X_aloadn 0 d14 rfl ?_
    refine X_getI d15 fg_x12_152 ?_
    refine X_cVi (as := [vi (mI M5 a0 10)]) d18 cv_x12_155 ⟨by decide, by decide⟩ rfl (Nat.le_of_ble_eq_true rfl) (T12_byteAt M5 a0 (mI M5 a0 10)) (fun r18 M18 _ => ?_)
    refine X_bipush k_b_10 d21 ?_
    refine X_icmp_ne (t := 39) d23 rfl (fun h23 => ?_) (fun h23 => ?_)
    · exact (T12_nextToken_b26 ih) M18 a0
    · refine X_aloadn 0 d39 rfl ?_
      refine X_aloadn 0 d40 rfl ?_
      refine X_getI d41 fg_x12_152 ?_
      refine X_putI d44 fp_x12_159 ?_
      refine X_bM fun M44 _ => ?_
      refine X_aloadn 0 d47 rfl ?_
      refine X_aloadn 0 d48 rfl ?_
      refine X_getI d49 fg_x12_159 ?_
      refine X_cVi (as := [vi (mI M44 a0 9)]) d52 cv_x12_155 ⟨by decide, by decide⟩ rfl (Nat.le_of_ble_eq_true rfl) (T12_byteAt M44 a0 (mI M44 a0 9)) (fun r52 M52 _ => ?_)
      refine X_istoren (lv' := [(1, vi r52), (0, vr a0)]) d55 (by decide) rfl ?_
      refine X_aloadn 1 d56 rfl ?_
      refine X_iconst k_i_0 d57 ?_
      refine X_putI d58 fp_x12_162 ?_
      refine X_bM fun M58 _ => ?_
      refine X_iloadn 0 d61 rfl ?_
      refine X_iconst k_i_m1 d62 ?_
      refine X_icmp_ne (t := 74) d63 rfl (fun h63 => ?_) (fun h63 => ?_)
      · refine X_aloadn 1 d66 rfl ?_
        refine X_iconst k_i_0 d67 ?_
        refine X_putI d68 fp_x12_165 ?_
        refine X_bM fun M68 _ => ?_
        refine X_goto (t := 313) d71 rfl ?_
        exact X_vreturn d313 rfl rfl
      · refine X_iloadn 0 d74 rfl ?_
        refine X_cSi (as := [vi r52]) d75 cs_x12_168 ⟨by decide, by decide⟩ rfl (Nat.le_of_ble_eq_true rfl) (T12_isSmall M58 r52) (fun r75 M75 _ => ?_)
        refine X_if_eq (t := 175) d78 rfl (fun h78 => ?_) (fun h78 => ?_)
        · refine X_iloadn 0 d175 rfl ?_
          refine X_cSi (as := [vi r52]) d176 cs_x12_172 ⟨by decide, by decide⟩ rfl (Nat.le_of_ble_eq_true rfl) (T12_isDigit M75 r52) (fun r176 M176 _ => ?_)
          refine X_if_eq (t := 288) d179 rfl (fun h179 => ?_) (fun h179 => ?_)
          · refine X_aloadn 1 d288 rfl ?_
            refine X_dupr d289 ?_
            refine X_getI d290 fg_x12_152 ?_
            refine X_iconst k_i_1 d293 ?_
            refine X_iadd d294 ?_
            refine X_putI d295 fp_x12_152 ?_
            refine X_bM fun M295 _ => ?_
            refine X_aloadn 1 d298 rfl ?_
            refine X_iloadn 0 d299 rfl ?_
            refine X_bipush k_b_59 d300 ?_
            refine X_icmp_ne (t := 309) d302 rfl (fun h302 => ?_) (fun h302 => ?_)
            · refine X_iconst k_i_3 d305 ?_
              refine X_goto (t := 310) d306 rfl ?_
              refine X_putI d310 fp_x12_165 ?_
              refine X_bM fun M310 _ => ?_
              exact X_vreturn d313 rfl rfl
            · refine X_iconst k_i_4 d309 ?_
              refine X_putI d310 fp_x12_165 ?_
              refine X_bM fun M310 _ => ?_
              exact X_vreturn d313 rfl rfl
          · refine X_sub [1] rfl ?_
            exact T12_nextToken_b182 M176 a0
        · refine X_sub [1] rfl ?_
          exact T12_nextToken_b81 M75 a0

def f12_nextToken (M : MM) (a0 : Nat) : Option MM :=
  f12_nextToken_b0 M a0
set_option maxRecDepth 4000 in
theorem T12_nextToken (M : MM) (a0 : Nat) : ∀ q, f12_nextToken M a0 = some q → Run i12_nextToken [vr a0] M (Lv q) := by
  refine Run_of_X (by decide) (Nat.le_of_ble_eq_true rfl) ?_
  show X Lv i12_nextToken 0 [(0, vr a0)] [] M _
  unfold f12_nextToken
  exact T12_nextToken_b0 M a0

theorem dd12_begins : AllD (ib i12_begins) [(0, .aload_n 0, 1), (1, .aload_n 0, 1), (2, .getfield 142, 3), (5, .putfield 149, 3), (8, .aload_n 0, 1), (9, .iconst 0, 1), (10, .putfield 142, 3), (13, .aload_n 0, 1), (14, .iconst 0, 1), (15, .putfield 152, 3), (18, .aload_n 0, 1), (19, .iconst 0, 1), (20, .putfield 175, 3), (23, .aload_n 0, 1), (24, .invokevirtual 185, 3), (27, .return_, 1)] := allD_of (by decide +kernel)
def f12_begins (M : MM) (a0 : Nat) : Option MM :=
  aO M a0 12 <|
  aO M a0 12 <|
  bM (sI M a0 8 (mI M a0 7)) fun M5 =>
  aO M5 a0 12 <|
  bM (sI M5 a0 7 (0 : Int32)) fun M10 =>
  aO M10 a0 12 <|
  bM (sI M10 a0 10 (0 : Int32)) fun M15 =>
  aO M15 a0 12 <|
  bM (sI M15 a0 15 (0 : Int32)) fun M20 =>
  aO M20 a0 12 <|
  cV (f12_nextToken M20 a0) fun M24 =>
  some M24
set_option maxRecDepth 4000 in
theorem T12_begins (M : MM) (a0 : Nat) : ∀ q, f12_begins M a0 = some q → Run i12_begins [vr a0] M (Lv q) := by
  obtain ⟨d0, d1, d2, d5, d8, d9, d10, d13, d14, d15, d18, d19, d20, d23, d24, d27, -⟩ := dd12_begins
  refine Run_of_X (by decide) (Nat.le_of_ble_eq_true rfl) ?_
  show X Lv i12_begins 0 [(0, vr a0)] [] M _
  unfold f12_begins
  refine X_aloadn 0 d0 rfl ?_
  refine X_aloadn 0 d1 rfl ?_
  refine X_getI d2 fg_x12_142 ?_
  refine X_putI d5 fp_x12_149 ?_
  refine X_bM fun M5 _ => ?_
  refine X_aloadn 0 d8 rfl ?_
  refine X_iconst k_i_0 d9 ?_
  refine X_putI d10 fp_x12_142 ?_
  refine X_bM fun M10 _ => ?_
  refine X_aloadn 0 d13 rfl ?_
  refine X_iconst k_i_0 d14 ?_
  refine X_putI d15 fp_x12_152 ?_
  refine X_bM fun M15 _ => ?_
  refine X_aloadn 0 d18 rfl ?_
  refine X_iconst k_i_0 d19 ?_
  refine X_putI d20 fp_x12_175 ?_
  refine X_bM fun M20 _ => ?_
  refine X_aloadn 0 d23 rfl ?_
  refine X_cVv (as := []) d24 cv_x12_185 ⟨by decide, by decide⟩ rfl (Nat.le_of_ble_eq_true rfl) (T12_nextToken M20 a0) (fun M24 _ => ?_)
  exact X_vreturn d27 rfl rfl

theorem dd12_isGood : AllD (ib i12_isGood) [(0, .aload_n 0, 1), (1, .getfield 175, 3), (4, .ifCond .ne 7, 3), (7, .iconst 1, 1), (8, .goto 4, 3), (11, .iconst 0, 1), (12, .ireturn, 1)] := allD_of (by decide +kernel)
def f12_isGood (M : MM) (a0 : Nat) : Option (Int32 × MM) :=
  aO M a0 12 <|
  if (mI M a0 15) = 0 then
    some ((1 : Int32), M)
  else
    some ((0 : Int32), M)
set_option maxRecDepth 4000 in
theorem T12_isGood (M : MM) (a0 : Nat) : ∀ q, f12_isGood M a0 = some q → Run i12_isGood [vr a0] M (Li q) := by
  obtain ⟨d0, d1, d4, d7, d8, d11, d12, -⟩ := dd12_isGood
  refine Run_of_X (by decide) (Nat.le_of_ble_eq_true rfl) ?_
  show X Li i12_isGood 0 [(0, vr a0)] [] M _
  unfold f12_isGood
  refine X_aloadn 0 d0 rfl ?_
  refine X_getI d1 fg_x12_175 ?_
  refine X_if_ne (t := 11) d4 rfl (fun h4 => ?_) (fun h4 => ?_)
  · refine X_iconst k_i_1 d7 ?_
    refine X_goto (t := 12) d8 rfl ?_
    exact X_zreturnc d12 rfl (by decide) rfl
  · refine X_iconst k_i_0 d11 ?_
    exact X_zreturnc d12 rfl (by decide) rfl

theorem dd12_isWord : AllD (ib i12_isWord) [(0, .aload_n 0, 1), (1, .getfield 165, 3), (4, .iconst 1, 1), (5, .if_icmp .ne 15, 3), (8, .aload_n 0, 1), (9, .getfield 162, 3), (12, .iload_n 1, 1), (13, .if_icmp .ne 7, 3), (16, .iconst 1, 1), (17, .goto 4, 3), (20, .iconst 0, 1), (21, .ireturn, 1)] := allD_of (by decide +kernel)
def f12_isWord (M : MM) (a0 : Nat) (a1 : Int32) : Option (Int32 × MM) :=
  aO M a0 12 <|
  if (mI M a0 11) = (1 : Int32) then
    aO M a0 12 <|
    if (mI M a0 12) = a1 then
      some ((1 : Int32), M)
    else
      some ((0 : Int32), M)
  else
    some ((0 : Int32), M)
set_option maxRecDepth 4000 in
theorem T12_isWord (M : MM) (a0 : Nat) (a1 : Int32) : ∀ q, f12_isWord M a0 a1 = some q → Run i12_isWord [vr a0, vi a1] M (Li q) := by
  obtain ⟨d0, d1, d4, d5, d8, d9, d12, d13, d16, d17, d20, d21, -⟩ := dd12_isWord
  refine Run_of_X (by decide) (Nat.le_of_ble_eq_true rfl) ?_
  show X Li i12_isWord 0 [(0, vr a0), (1, vi a1)] [] M _
  unfold f12_isWord
  refine X_aloadn 0 d0 rfl ?_
  refine X_getI d1 fg_x12_165 ?_
  refine X_iconst k_i_1 d4 ?_
  refine X_icmp_ne (t := 20) d5 rfl (fun h5 => ?_) (fun h5 => ?_)
  · refine X_aloadn 0 d8 rfl ?_
    refine X_getI d9 fg_x12_162 ?_
    refine X_iloadn 1 d12 rfl ?_
    refine X_icmp_ne (t := 20) d13 rfl (fun h13 => ?_) (fun h13 => ?_)
    · refine X_iconst k_i_1 d16 ?_
      refine X_goto (t := 21) d17 rfl ?_
      exact X_zreturnc d21 rfl (by decide) rfl
    · refine X_iconst k_i_0 d20 ?_
      exact X_zreturnc d21 rfl (by decide) rfl
  · refine X_iconst k_i_0 d20 ?_
    exact X_zreturnc d21 rfl (by decide) rfl

theorem dd12_isName_b36 : AllD (ib i12_isName) [(36, .iconst 1, 1), (37, .goto 4, 3)] := allD_of (by decide +kernel)
def f12_isName_b36 (K41 : MM → Nat → Int32 → Option (Int32 × MM)) (M : MM) (a0 : Nat) : Option (Int32 × MM) :=
  K41 M a0 (1 : Int32)
set_option maxRecDepth 4000 in
theorem T12_isName_b36 {K41 : MM → Nat → Int32 → Option (Int32 × MM)} (hK41 : ∀ (M : MM) (a0 : Nat) (s0 : Int32), X Li i12_isName 41 [(0, vr a0)] [vi s0] M (K41 M a0 s0)) : ∀ (M : MM) (a0 : Nat), X Li i12_isName 36 [(0, vr a0)] [] M (f12_isName_b36 K41 M a0) := by
  obtain ⟨d36, d37, -⟩ := dd12_isName_b36
  intro M a0
  unfold f12_isName_b36
  refine X_iconst k_i_1 d36 ?_
  refine X_goto (t := 41) d37 rfl ?_
  exact hK41 M a0 (1 : Int32)

theorem dd12_isName_b41 : AllD (ib i12_isName) [(41, .istore_n 1, 1), (42, .aload_n 0, 1), (43, .getfield 165, 3), (46, .iconst 1, 1), (47, .if_icmp .ne 39, 3), (50, .iload_n 1, 1), (51, .ifCond .ne 35, 3), (54, .aload_n 0, 1), (55, .sipush 655, 3), (58, .invokevirtual 189, 3), (61, .ifCond .ne 25, 3), (64, .aload_n 0, 1), (65, .ldc 195, 2), (67, .invokevirtual 189, 3), (70, .ifCond .ne 16, 3), (73, .aload_n 0, 1), (74, .ldc 196, 2), (76, .invokevirtual 189, 3), (79, .ifCond .ne 7, 3), (82, .iconst 1, 1), (83, .goto 4, 3), (86, .iconst 0, 1), (87, .ireturn, 1)] := allD_of (by decide +kernel)
def f12_isName_b41 (M : MM) (a0 : Nat) (s0 : Int32) : Option (Int32 × MM) :=
  aO M a0 12 <|
  if (mI M a0 11) = (1 : Int32) then
    if s0 = 0 then
      aO M a0 12 <|
      cI (f12_isWord M a0 (655 : Int32)) fun r58 M58 =>
      if r58 = 0 then
        aO M58 a0 12 <|
        cI (f12_isWord M58 a0 (114292 : Int32)) fun r67 M67 =>
        if r67 = 0 then
          aO M67 a0 12 <|
          cI (f12_isWord M67 a0 (441925 : Int32)) fun r76 M76 =>
          if r76 = 0 then
            some ((1 : Int32), M76)
          else
            some ((0 : Int32), M76)
        else
          some ((0 : Int32), M67)
      else
        some ((0 : Int32), M58)
    else
      some ((0 : Int32), M)
  else
    some ((0 : Int32), M)
set_option maxRecDepth 4000 in
theorem T12_isName_b41 : ∀ (M : MM) (a0 : Nat) (s0 : Int32), X Li i12_isName 41 [(0, vr a0)] [vi s0] M (f12_isName_b41 M a0 s0) := by
  obtain ⟨d41, d42, d43, d46, d47, d50, d51, d54, d55, d58, d61, d64, d65, d67, d70, d73, d74, d76, d79, d82, d83, d86, d87, -⟩ := dd12_isName_b41
  intro M a0 s0
  unfold f12_isName_b41
  refine X_istoren (lv' := [(1, vi s0), (0, vr a0)]) d41 (by decide) rfl ?_
  refine X_aloadn 1 d42 rfl ?_
  refine X_getI d43 fg_x12_165 ?_
  refine X_iconst k_i_1 d46 ?_
  refine X_icmp_ne (t := 86) d47 rfl (fun h47 => ?_) (fun h47 => ?_)
  · refine X_iloadn 0 d50 rfl ?_
    refine X_if_ne (t := 86) d51 rfl (fun h51 => ?_) (fun h51 => ?_)
    · refine X_aloadn 1 d54 rfl ?_
      refine X_sipush k_s_655 d55 ?_
      refine X_cVi (as := [vi (655 : Int32)]) d58 cv_x12_189 ⟨by decide, by decide⟩ rfl (Nat.le_of_ble_eq_true rfl) (T12_isWord M a0 (655 : Int32)) (fun r58 M58 _ => ?_)
      refine X_if_ne (t := 86) d61 rfl (fun h61 => ?_) (fun h61 => ?_)
      · refine X_aloadn 1 d64 rfl ?_
        refine X_ldc kc_x12_195 d65 ?_
        refine X_cVi (as := [vi (114292 : Int32)]) d67 cv_x12_189 ⟨by decide, by decide⟩ rfl (Nat.le_of_ble_eq_true rfl) (T12_isWord M58 a0 (114292 : Int32)) (fun r67 M67 _ => ?_)
        refine X_if_ne (t := 86) d70 rfl (fun h70 => ?_) (fun h70 => ?_)
        · refine X_aloadn 1 d73 rfl ?_
          refine X_ldc kc_x12_196 d74 ?_
          refine X_cVi (as := [vi (441925 : Int32)]) d76 cv_x12_189 ⟨by decide, by decide⟩ rfl (Nat.le_of_ble_eq_true rfl) (T12_isWord M67 a0 (441925 : Int32)) (fun r76 M76 _ => ?_)
          refine X_if_ne (t := 86) d79 rfl (fun h79 => ?_) (fun h79 => ?_)
          · refine X_iconst k_i_1 d82 ?_
            refine X_goto (t := 87) d83 rfl ?_
            exact X_zreturnc d87 rfl (by decide) rfl
          · refine X_iconst k_i_0 d86 ?_
            exact X_zreturnc d87 rfl (by decide) rfl
        · refine X_iconst k_i_0 d86 ?_
          exact X_zreturnc d87 rfl (by decide) rfl
      · refine X_iconst k_i_0 d86 ?_
        exact X_zreturnc d87 rfl (by decide) rfl
    · refine X_iconst k_i_0 d86 ?_
      exact X_zreturnc d87 rfl (by decide) rfl
  · refine X_iconst k_i_0 d86 ?_
    exact X_zreturnc d87 rfl (by decide) rfl

theorem dd12_isName : AllD (ib i12_isName) [(0, .aload_n 0, 1), (1, .ldc 188, 2), (3, .invokevirtual 189, 3), (6, .ifCond .ne 30, 3), (9, .aload_n 0, 1), (10, .ldc 192, 2), (12, .invokevirtual 189, 3), (15, .ifCond .ne 21, 3), (18, .aload_n 0, 1), (19, .ldc 193, 2), (21, .invokevirtual 189, 3), (24, .ifCond .ne 12, 3), (27, .aload_n 0, 1), (28, .ldc 194, 2), (30, .invokevirtual 189, 3), (33, .ifCond .eq 7, 3), (40, .iconst 0, 1)] := allD_of (by decide +kernel)
def f12_isName (M : MM) (a0 : Nat) : Option (Int32 × MM) :=
  aO M a0 12 <|
  cI (f12_isWord M a0 (20579973 : Int32)) fun r3 M3 =>
  if r3 = 0 then
    aO M3 a0 12 <|
    cI (f12_isWord M3 a0 (632046 : Int32)) fun r12 M12 =>
    if r12 = 0 then
      aO M12 a0 12 <|
      cI (f12_isWord M12 a0 (611717 : Int32)) fun r21 M21 =>
      if r21 = 0 then
        aO M21 a0 12 <|
        cI (f12_isWord M21 a0 (244780 : Int32)) fun r30 M30 =>
        if r30 = 0 then
          f12_isName_b41 M30 a0 (0 : Int32)
        else
          (f12_isName_b36 f12_isName_b41) M30 a0
      else
        (f12_isName_b36 f12_isName_b41) M21 a0
    else
      (f12_isName_b36 f12_isName_b41) M12 a0
  else
    (f12_isName_b36 f12_isName_b41) M3 a0
set_option maxRecDepth 4000 in
theorem T12_isName (M : MM) (a0 : Nat) : ∀ q, f12_isName M a0 = some q → Run i12_isName [vr a0] M (Li q) := by
  obtain ⟨d0, d1, d3, d6, d9, d10, d12, d15, d18, d19, d21, d24, d27, d28, d30, d33, d40, -⟩ := dd12_isName
  refine Run_of_X (by decide) (Nat.le_of_ble_eq_true rfl) ?_
  show X Li i12_isName 0 [(0, vr a0)] [] M _
  unfold f12_isName
  refine X_aloadn 0 d0 rfl ?_
  refine X_ldc kc_x12_188 d1 ?_
  refine X_cVi (as := [vi (20579973 : Int32)]) d3 cv_x12_189 ⟨by decide, by decide⟩ rfl (Nat.le_of_ble_eq_true rfl) (T12_isWord M a0 (20579973 : Int32)) (fun r3 M3 _ => ?_)
  refine X_if_ne (t := 36) d6 rfl (fun h6 => ?_) (fun h6 => ?_)
  · refine X_aloadn 0 d9 rfl ?_
    refine X_ldc kc_x12_192 d10 ?_
    refine X_cVi (as := [vi (632046 : Int32)]) d12 cv_x12_189 ⟨by decide, by decide⟩ rfl (Nat.le_of_ble_eq_true rfl) (T12_isWord M3 a0 (632046 : Int32)) (fun r12 M12 _ => ?_)
    refine X_if_ne (t := 36) d15 rfl (fun h15 => ?_) (fun h15 => ?_)
    · refine X_aloadn 0 d18 rfl ?_
      refine X_ldc kc_x12_193 d19 ?_
      refine X_cVi (as := [vi (611717 : Int32)]) d21 cv_x12_189 ⟨by decide, by decide⟩ rfl (Nat.le_of_ble_eq_true rfl) (T12_isWord M12 a0 (611717 : Int32)) (fun r21 M21 _ => ?_)
      refine X_if_ne (t := 36) d24 rfl (fun h24 => ?_) (fun h24 => ?_)
      · refine X_aloadn 0 d27 rfl ?_
        refine X_ldc kc_x12_194 d28 ?_
        refine X_cVi (as := [vi (244780 : Int32)]) d30 cv_x12_189 ⟨by decide, by decide⟩ rfl (Nat.le_of_ble_eq_true rfl) (T12_isWord M21 a0 (244780 : Int32)) (fun r30 M30 _ => ?_)
        refine X_if_eq (t := 40) d33 rfl (fun h33 => ?_) (fun h33 => ?_)
        · refine X_iconst k_i_0 d40 ?_
          exact T12_isName_b41 M30 a0 (0 : Int32)
        · exact (T12_isName_b36 T12_isName_b41) M30 a0
      · exact (T12_isName_b36 T12_isName_b41) M21 a0
    · exact (T12_isName_b36 T12_isName_b41) M12 a0
  · exact (T12_isName_b36 T12_isName_b41) M3 a0

theorem dd12_called_b2 : AllD (ib i12_called) [(2, .iload_n 3, 1), (3, .aload_n 0, 1), (4, .getfield 7, 3), (7, .iconst 4, 1), (8, .iload_n 1, 1), (9, .imul, 1), (10, .iload_n 2, 1), (11, .iadd, 1), (12, .iaload, 1), (13, .if_icmp .ge 34, 3), (16, .aload_n 0, 1), (17, .getfield 13, 3), (20, .bipush 12, 2), (22, .iload_n 1, 1), (23, .imul, 1), (24, .bipush 6, 2), (26, .iload_n 2, 1), (27, .imul, 1), (28, .iadd, 1), (29, .iload_n 3, 1), (30, .iadd, 1), (31, .iaload, 1), (32, .aload_n 0, 1), (33, .getfield 162, 3), (36, .if_icmp .ne 5, 3), (39, .iload_n 3, 1), (40, .ireturn, 1), (41, .iinc 3 1, 3), (44, .goto (-42), 3), (47, .iconst (-1), 1), (48, .ireturn, 1)] := allD_of (by decide +kernel)
def f12_called_b2_body (rc : MM → Nat → Int32 → Int32 → Int32 → Option (Int32 × MM)) (M : MM) (a0 : Nat) (a1 : Int32) (a2 : Int32) (a3 : Int32) : Option (Int32 × MM) :=
  aO M a0 12 <|
  aA M (mR M a0 1) 0 (((4 : Int32) * a1) + a2) <|
  if (mI M (mR M a0 1) (((4 : Int32) * a1) + a2).toNatClampNeg) ≤ a3 then
    some ((-1 : Int32), M)
  else
    aO M a0 12 <|
    aA M (mR M a0 2) 0 ((((12 : Int32) * a1) + ((6 : Int32) * a2)) + a3) <|
    aO M a0 12 <|
    if (mI M (mR M a0 2) ((((12 : Int32) * a1) + ((6 : Int32) * a2)) + a3).toNatClampNeg) = (mI M a0 12) then
      some (a3, M)
    else
      rc M a0 a1 a2 (a3 + (1 : Int32))
def f12_called_b2 : MM → Nat → Int32 → Int32 → Int32 → Option (Int32 × MM) := LP5 (f12_called_b2_body) FU
set_option maxRecDepth 4000 in
theorem T12_called_b2 : ∀ (M : MM) (a0 : Nat) (a1 : Int32) (a2 : Int32) (a3 : Int32), X Li i12_called 2 [(0, vr a0), (1, vi a1), (2, vi a2), (3, vi a3)] [] M (f12_called_b2 M a0 a1 a2 a3) := by
  obtain ⟨d2, d3, d4, d7, d8, d9, d10, d11, d12, d13, d16, d17, d20, d22, d23, d24, d26, d27, d28, d29, d30, d31, d32, d33, d36, d39, d40, d41, d44, d47, d48, -⟩ := dd12_called_b2
  refine LP5_i (P := fun M a0 a1 a2 a3 o => X Li i12_called 2 [(0, vr a0), (1, vi a1), (2, vi a2), (3, vi a3)] [] M o) (fun _ _ _ _ _ => X_none) (fun rc ih M a0 a1 a2 a3 => ?_) FU
  unfold f12_called_b2_body
  refine X_iloadn 3 d2 rfl ?_
  refine X_aloadn 0 d3 rfl ?_
  refine X_getR d4 fg_x12_7 ?_
  refine X_iconst k_i_4 d7 ?_
  refine X_iloadn 1 d8 rfl ?_
  refine X_imul d9 ?_
  refine X_iloadn 2 d10 rfl ?_
  refine X_iadd d11 ?_
  refine X_iaload d12 ?_
  refine X_icmp_ge (t := 47) d13 rfl (fun h13 => ?_) (fun h13 => ?_)
  · refine X_iconst k_i_m1 d47 ?_
    exact X_ireturn d48 rfl rfl
  · refine X_aloadn 0 d16 rfl ?_
    refine X_getR d17 fg_x12_13 ?_
    refine X_bipush k_b_12 d20 ?_
    refine X_iloadn 1 d22 rfl ?_
    refine X_imul d23 ?_
    refine X_bipush k_b_6 d24 ?_
    refine X_iloadn 2 d26 rfl ?_
    refine X_imul d27 ?_
    refine X_iadd d28 ?_
    refine X_iloadn 3 d29 rfl ?_
    refine X_iadd d30 ?_
    refine X_iaload d31 ?_
    refine X_aloadn 0 d32 rfl ?_
    refine X_getI d33 fg_x12_162 ?_
    refine X_icmp_ne (t := 41) d36 rfl (fun h36 => ?_) (fun h36 => ?_)
    · refine X_iloadn 3 d39 rfl ?_
      exact X_ireturn d40 rfl rfl
    · refine X_inc (lv' := [(3, vi (a3 + (1 : Int32))), (0, vr a0), (1, vi a1), (2, vi a2)]) 3 d41 k_i_1 rfl (by decide) rfl ?_
      refine X_goto (t := 2) d44 rfl ?_
      refine X_sub [1, 2, 3, 0] rfl ?_
      exact ih M a0 a1 a2 (a3 + (1 : Int32))

theorem dd12_called : AllD (ib i12_called) [(0, .iconst 0, 1), (1, .istore_n 3, 1)] := allD_of (by decide +kernel)
def f12_called (M : MM) (a0 : Nat) (a1 : Int32) (a2 : Int32) : Option (Int32 × MM) :=
  f12_called_b2 M a0 a1 a2 (0 : Int32)
set_option maxRecDepth 4000 in
theorem T12_called (M : MM) (a0 : Nat) (a1 : Int32) (a2 : Int32) : ∀ q, f12_called M a0 a1 a2 = some q → Run i12_called [vr a0, vi a1, vi a2] M (Li q) := by
  obtain ⟨d0, d1, -⟩ := dd12_called
  refine Run_of_X (by decide) (Nat.le_of_ble_eq_true rfl) ?_
  show X Li i12_called 0 [(0, vr a0), (1, vi a1), (2, vi a2)] [] M _
  unfold f12_called
  refine X_iconst k_i_0 d0 ?_
  refine X_istoren (lv' := [(3, vi (0 : Int32)), (0, vr a0), (1, vi a1), (2, vi a2)]) d1 (by decide) rfl ?_
  refine X_sub [1, 2, 3, 0] rfl ?_
  exact T12_called_b2 M a0 a1 a2 (0 : Int32)

theorem dd12_fails_b21 : AllD (ib i12_fails) [(21, .putfield 175, 3), (24, .aload_n 0, 1), (25, .aload_n 0, 1), (26, .getfield 159, 3), (29, .putfield 178, 3), (32, .return_, 1)] := allD_of (by decide +kernel)
def f12_fails_b21 (M : MM) (a0 : Nat) (s0 : Int32) (s1 : Nat) : Option MM :=
  aO M s1 12 <|
  bM (sI M s1 15 s0) fun M21 =>
  aO M21 a0 12 <|
  aO M21 a0 12 <|
  bM (sI M21 a0 16 (mI M21 a0 9)) fun M29 =>
  some M29
set_option maxRecDepth 4000 in
theorem T12_fails_b21 : ∀ (M : MM) (a0 : Nat) (s0 : Int32) (s1 : Nat), X Lv i12_fails 21 [(0, vr a0)] [vi s0, vr s1] M (f12_fails_b21 M a0 s0 s1) := by
  obtain ⟨d21, d24, d25, d26, d29, d32, -⟩ := dd12_fails_b21
  intro M a0 s0 s1
  unfold f12_fails_b21
  refine X_putI d21 fp_x12_175 ?_
  refine X_bM fun M21 _ => ?_
  refine X_aloadn 0 d24 rfl ?_
  refine X_aloadn 0 d25 rfl ?_
  refine X_getI d26 fg_x12_159 ?_
  refine X_putI d29 fp_x12_178 ?_
  refine X_bM fun M29 _ => ?_
  exact X_vreturn d32 rfl rfl

theorem dd12_fails : AllD (ib i12_fails) [(0, .aload_n 0, 1), (1, .getfield 175, 3), (4, .ifCond .ne 28, 3), (7, .aload_n 0, 1), (8, .aload_n 0, 1), (9, .getfield 165, 3), (12, .iconst 4, 1), (13, .if_icmp .ne 7, 3), (16, .iconst 1, 1), (17, .goto 4, 3), (20, .iload_n 1, 1), (32, .return_, 1)] := allD_of (by decide +kernel)
def f12_fails (M : MM) (a0 : Nat) (a1 : Int32) : Option MM :=
  aO M a0 12 <|
  if (mI M a0 15) = 0 then
    aO M a0 12 <|
    if (mI M a0 11) = (4 : Int32) then
      f12_fails_b21 M a0 (1 : Int32) a0
    else
      f12_fails_b21 M a0 a1 a0
  else
    some M
set_option maxRecDepth 4000 in
theorem T12_fails (M : MM) (a0 : Nat) (a1 : Int32) : ∀ q, f12_fails M a0 a1 = some q → Run i12_fails [vr a0, vi a1] M (Lv q) := by
  obtain ⟨d0, d1, d4, d7, d8, d9, d12, d13, d16, d17, d20, d32, -⟩ := dd12_fails
  refine Run_of_X (by decide) (Nat.le_of_ble_eq_true rfl) ?_
  show X Lv i12_fails 0 [(0, vr a0), (1, vi a1)] [] M _
  unfold f12_fails
  refine X_aloadn 0 d0 rfl ?_
  refine X_getI d1 fg_x12_175 ?_
  refine X_if_ne (t := 32) d4 rfl (fun h4 => ?_) (fun h4 => ?_)
  · refine X_aloadn 0 d7 rfl ?_
    refine X_aloadn 0 d8 rfl ?_
    refine X_getI d9 fg_x12_165 ?_
    refine X_iconst k_i_4 d12 ?_
    refine X_icmp_ne (t := 20) d13 rfl (fun h13 => ?_) (fun h13 => ?_)
    · refine X_iconst k_i_1 d16 ?_
      refine X_goto (t := 21) d17 rfl ?_
      refine X_sub [0] rfl ?_
      exact T12_fails_b21 M a0 (1 : Int32) a0
    · refine X_iloadn 1 d20 rfl ?_
      refine X_sub [0] rfl ?_
      exact T12_fails_b21 M a0 a1 a0
  · exact X_vreturn d32 rfl rfl

theorem dd12_goOn : AllD (ib i12_goOn) [(0, .aload_n 0, 1), (1, .invokevirtual 181, 3), (4, .ifCond .eq 7, 3), (7, .aload_n 0, 1), (8, .invokevirtual 185, 3), (11, .return_, 1)] := allD_of (by decide +kernel)
def f12_goOn (M : MM) (a0 : Nat) : Option MM :=
  aO M a0 12 <|
  cI (f12_isGood M a0) fun r1 M1 =>
  if r1 = 0 then
    some M1
  else
    aO M1 a0 12 <|
    cV (f12_nextToken M1 a0) fun M8 =>
    some M8
set_option maxRecDepth 4000 in
theorem T12_goOn (M : MM) (a0 : Nat) : ∀ q, f12_goOn M a0 = some q → Run i12_goOn [vr a0] M (Lv q) := by
  obtain ⟨d0, d1, d4, d7, d8, d11, -⟩ := dd12_goOn
  refine Run_of_X (by decide) (Nat.le_of_ble_eq_true rfl) ?_
  show X Lv i12_goOn 0 [(0, vr a0)] [] M _
  unfold f12_goOn
  refine X_aloadn 0 d0 rfl ?_
  refine X_cVi (as := []) d1 cv_x12_181 ⟨by decide, by decide⟩ rfl (Nat.le_of_ble_eq_true rfl) (T12_isGood M a0) (fun r1 M1 _ => ?_)
  refine X_if_eq (t := 11) d4 rfl (fun h4 => ?_) (fun h4 => ?_)
  · exact X_vreturn d11 rfl rfl
  · refine X_aloadn 0 d7 rfl ?_
    refine X_cVv (as := []) d8 cv_x12_185 ⟨by decide, by decide⟩ rfl (Nat.le_of_ble_eq_true rfl) (T12_nextToken M1 a0) (fun M8 _ => ?_)
    exact X_vreturn d11 rfl rfl

