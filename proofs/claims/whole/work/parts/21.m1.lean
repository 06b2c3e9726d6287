/-! printed by program: methods as functions, and that the bytecode does what they tell -/
theorem dd2_leadsToLasting_b47 : AllD (ib i2_leadsToLasting) [(47, .iinc 2 1, 3), (50, .goto (-48), 3)] := allD_of (by decide +kernel)
def f2_leadsToLasting_b47 (K2 : MM → Nat → Int32 → Int32 → Option (Int32 × MM)) (M : MM) (a0 : Nat) (a1 : Int32) (a2 : Int32) : Option (Int32 × MM) :=
  K2 M a0 a1 (a2 + (1 : Int32))
set_option maxRecDepth 4000 in
theorem T2_leadsToLasting_b47 {K2 : MM → Nat → Int32 → Int32 → Option (Int32 × MM)} (hK2 : ∀ (M : MM) (a0 : Nat) (a1 : Int32) (a2 : Int32), X Li i2_leadsToLasting 2 [(0, vr a0), (1, vi a1), (2, vi a2)] [] M (K2 M a0 a1 a2)) : ∀ (M : MM) (a0 : Nat) (a1 : Int32) (a2 : Int32), X Li i2_leadsToLasting 47 [(0, vr a0), (1, vi a1), (2, vi a2)] [] M (f2_leadsToLasting_b47 K2 M a0 a1 a2) := by
  obtain ⟨d47, d50, -⟩ := dd2_leadsToLasting_b47
  intro M a0 a1 a2
  unfold f2_leadsToLasting_b47
  refine X_inc (lv' := [(2, vi (a2 + (1 : Int32))), (0, vr a0), (1, vi a1)]) 2 d47 k_i_1 rfl (by decide) rfl ?_
  refine X_goto (t := 2) d50 rfl ?_
  refine X_sub [1, 2, 0] rfl ?_
  exact hK2 M a0 a1 (a2 + (1 : Int32))

theorem dd2_leadsToLasting_b2 : AllD (ib i2_leadsToLasting) [(2, .iload_n 2, 1), (3, .aload_n 0, 1), (4, .getfield 43, 3), (7, .getfield 79, 3), (10, .if_icmp .ge 43, 3), (13, .aload_n 0, 1), (14, .getfield 43, 3), (17, .iload_n 2, 1), (18, .aload_n 0, 1), (19, .getfield 39, 3), (22, .invokevirtual 82, 3), (25, .ifCond .eq 22, 3), (28, .aload_n 0, 1), (29, .iload_n 2, 1), (30, .invokevirtual 104, 3), (33, .iload_n 1, 1), (34, .if_icmp .ne 13, 3), (37, .aload_n 0, 1), (38, .iload_n 2, 1), (39, .invokevirtual 131, 3), (42, .ifCond .eq 5, 3), (45, .iconst 1, 1), (46, .ireturn, 1), (53, .iconst 0, 1), (54, .ireturn, 1)] := allD_of (by decide +kernel)
def f2_leadsToLasting_b2_body (rc : MM → Nat → Int32 → Int32 → Option (Int32 × MM)) (M : MM) (a0 : Nat) (a1 : Int32) (a2 : Int32) : Option (Int32 × MM) :=
  aO M a0 2 <|
  aO M (mR M a0 7) 7 <|
  if (mI M (mR M a0 7) 6) ≤ a2 then
    some ((0 : Int32), M)
  else
    aO M a0 2 <|
    aO M a0 2 <|
    aO M (mR M a0 7) 7 <|
    cI (f7_isIn M (mR M a0 7) a2 (mI M a0 8)) fun r22 M22 =>
    if r22 = 0 then
      (f2_leadsToLasting_b47 rc) M22 a0 a1 a2
    else
      aO M22 a0 2 <|
      cI (f2_headOfRule M22 a0 a2) fun r30 M30 =>
      if r30 = a1 then
        aO M30 a0 2 <|
        cI (f2_goesOnToLasting M30 a0 a2) fun r39 M39 =>
        if r39 = 0 then
          (f2_leadsToLasting_b47 rc) M39 a0 a1 a2
        else
          some ((1 : Int32), M39)
      else
        (f2_leadsToLasting_b47 rc) M30 a0 a1 a2
def f2_leadsToLasting_b2 : MM → Nat → Int32 → Int32 → Option (Int32 × MM) := LP4 (f2_leadsToLasting_b2_body) FU
set_option maxRecDepth 4000 in
theorem T2_leadsToLasting_b2 : ∀ (M : MM) (a0 : Nat) (a1 : Int32) (a2 : Int32), X Li i2_leadsToLasting 2 [(0, vr a0), (1, vi a1), (2, vi a2)] [] M (f2_leadsToLasting_b2 M a0 a1 a2) := by
  obtain ⟨d2, d3, d4, d7, d10, d13, d14, d17, d18, d19, d22, d25, d28, d29, d30, d33, d34, d37, d38, d39, d42, d45, d46, d53, d54, -⟩ := dd2_leadsToLasting_b2
  refine LP4_i (P := fun M a0 a1 a2 o => X Li i2_leadsToLasting 2 [(0, vr a0), (1, vi a1), (2, vi a2)] [] M o) (fun _ _ _ _ => X_none) (fun rc ih M a0 a1 a2 => ?_) FU
  unfold f2_leadsToLasting_b2_body
  refine X_iloadn 2 d2 rfl ?_
  refine X_aloadn 0 d3 rfl ?_
  refine X_getR d4 fg_x2_43 ?_
  refine X_getI d7 fg_x2_79 ?_
  refine X_icmp_ge (t := 53) d10 rfl (fun h10 => ?_) (fun h10 => ?_)
  · refine X_iconst k_i_0 d53 ?_
    exact X_zreturnc d54 rfl (by decide) rfl
  · refine X_aloadn 0 d13 rfl ?_
    refine X_getR d14 fg_x2_43 ?_
    refine X_iloadn 2 d17 rfl ?_
    refine X_aloadn 0 d18 rfl ?_
    refine X_getI d19 fg_x2_39 ?_
    refine X_cVi (as := [vi a2, vi (mI M a0 8)]) d22 cv_x2_82 ⟨by decide, by decide⟩ rfl (Nat.le_of_ble_eq_true rfl) (T7_isIn M (mR M a0 7) a2 (mI M a0 8)) (fun r22 M22 _ => ?_)
    refine X_if_eq (t := 47) d25 rfl (fun h25 => ?_) (fun h25 => ?_)
    · exact (T2_leadsToLasting_b47 ih) M22 a0 a1 a2
    · refine X_aloadn 0 d28 rfl ?_
      refine X_iloadn 2 d29 rfl ?_
      refine X_cVi (as := [vi a2]) d30 cv_x2_104 ⟨by decide, by decide⟩ rfl (Nat.le_of_ble_eq_true rfl) (T2_headOfRule M22 a0 a2) (fun r30 M30 _ => ?_)
      refine X_iloadn 1 d33 rfl ?_
      refine X_icmp_ne (t := 47) d34 rfl (fun h34 => ?_) (fun h34 => ?_)
      · refine X_aloadn 0 d37 rfl ?_
        refine X_iloadn 2 d38 rfl ?_
        refine X_cVi (as := [vi a2]) d39 cv_x2_131 ⟨by decide, by decide⟩ rfl (Nat.le_of_ble_eq_true rfl) (T2_goesOnToLasting M30 a0 a2) (fun r39 M39 _ => ?_)
        refine X_if_eq (t := 47) d42 rfl (fun h42 => ?_) (fun h42 => ?_)
        · exact (T2_leadsToLasting_b47 ih) M39 a0 a1 a2
        · refine X_iconst k_i_1 d45 ?_
          exact X_zreturnc d46 rfl (by decide) rfl
      · exact (T2_leadsToLasting_b47 ih) M30 a0 a1 a2

theorem dd2_leadsToLasting : AllD (ib i2_leadsToLasting) [(0, .iconst 0, 1), (1, .istore_n 2, 1)] := allD_of (by decide +kernel)
def f2_leadsToLasting (M : MM) (a0 : Nat) (a1 : Int32) : Option (Int32 × MM) :=
  f2_leadsToLasting_b2 M a0 a1 (0 : Int32)
set_option maxRecDepth 4000 in
theorem T2_leadsToLasting (M : MM) (a0 : Nat) (a1 : Int32) : ∀ q, f2_leadsToLasting M a0 a1 = some q → Run i2_leadsToLasting [vr a0, vi a1] M (Li q) := by
  obtain ⟨d0, d1, -⟩ := dd2_leadsToLasting
  refine Run_of_X (by decide) (Nat.le_of_ble_eq_true rfl) ?_
  show X Li i2_leadsToLasting 0 [(0, vr a0), (1, vi a1)] [] M _
  unfold f2_leadsToLasting
  refine X_iconst k_i_0 d0 ?_
  refine X_istoren (lv' := [(2, vi (0 : Int32)), (0, vr a0), (1, vi a1)]) d1 (by decide) rfl ?_
  refine X_sub [1, 2, 0] rfl ?_
  exact T2_leadsToLasting_b2 M a0 a1 (0 : Int32)

theorem dd2_findLasting_b63 : AllD (ib i2_findLasting) [(63, .iinc 3 1, 3), (66, .goto (-40), 3)] := allD_of (by decide +kernel)
def f2_findLasting_b63 (K26 : MM → Nat → Int32 → Int32 → Int32 → Option MM) (M : MM) (a0 : Nat) (a1 : Int32) (a2 : Int32) (a3 : Int32) : Option MM :=
  K26 M a0 a1 a2 (a3 + (1 : Int32))
set_option maxRecDepth 4000 in
theorem T2_findLasting_b63 {K26 : MM → Nat → Int32 → Int32 → Int32 → Option MM} (hK26 : ∀ (M : MM) (a0 : Nat) (a1 : Int32) (a2 : Int32) (a3 : Int32), X Lv i2_findLasting 26 [(0, vr a0), (1, vi a1), (2, vi a2), (3, vi a3)] [] M (K26 M a0 a1 a2 a3)) : ∀ (M : MM) (a0 : Nat) (a1 : Int32) (a2 : Int32) (a3 : Int32), X Lv i2_findLasting 63 [(0, vr a0), (1, vi a1), (2, vi a2), (3, vi a3)] [] M (f2_findLasting_b63 K26 M a0 a1 a2 a3) := by
  obtain ⟨d63, d66, -⟩ := dd2_findLasting_b63
  intro M a0 a1 a2 a3
  unfold f2_findLasting_b63
  refine X_inc (lv' := [(3, vi (a3 + (1 : Int32))), (0, vr a0), (1, vi a1), (2, vi a2)]) 3 d63 k_i_1 rfl (by decide) rfl ?_
  refine X_goto (t := 26) d66 rfl ?_
  refine X_sub [1, 2, 3, 0] rfl ?_
  exact hK26 M a0 a1 a2 (a3 + (1 : Int32))

theorem dd2_findLasting_b26 : AllD (ib i2_findLasting) [(26, .iload_n 3, 1), (27, .bipush 30, 2), (29, .if_icmp .ge 40, 3), (32, .aload_n 0, 1), (33, .getfield 20, 3), (36, .iload_n 3, 1), (37, .invokevirtual 72, 3), (40, .iconst 1, 1), (41, .if_icmp .ne 22, 3), (44, .aload_n 0, 1), (45, .iload_n 3, 1), (46, .invokevirtual 128, 3), (49, .ifCond .ne 14, 3), (52, .aload_n 0, 1), (53, .getfield 20, 3), (56, .iload_n 3, 1), (57, .iconst 0, 1), (58, .invokevirtual 107, 3), (61, .iconst 1, 1), (62, .istore_n 1, 1), (69, .iinc 2 1, 3), (72, .goto (-60), 3)] := allD_of (by decide +kernel)
def f2_findLasting_b26_body (K12 : MM → Nat → Int32 → Int32 → Option MM) (rc : MM → Nat → Int32 → Int32 → Int32 → Option MM) (M : MM) (a0 : Nat) (a1 : Int32) (a2 : Int32) (a3 : Int32) : Option MM :=
  if (30 : Int32) ≤ a3 then
    K12 M a0 a1 (a2 + (1 : Int32))
  else
    aO M a0 2 <|
    aO M (mR M a0 1) 3 <|
    cI (f3_get M (mR M a0 1) a3) fun r37 M37 =>
    if r37 = (1 : Int32) then
      aO M37 a0 2 <|
      cI (f2_leadsToLasting M37 a0 a3) fun r46 M46 =>
      if r46 = 0 then
        aO M46 a0 2 <|
        aO M46 (mR M46 a0 1) 3 <|
        cV (f3_set M46 (mR M46 a0 1) a3 (0 : Int32)) fun M58 =>
        (f2_findLasting_b63 rc) M58 a0 (1 : Int32) a2 a3
      else
        (f2_findLasting_b63 rc) M46 a0 a1 a2 a3
    else
      (f2_findLasting_b63 rc) M37 a0 a1 a2 a3
def f2_findLasting_b26 (K12 : MM → Nat → Int32 → Int32 → Option MM) : MM → Nat → Int32 → Int32 → Int32 → Option MM := LP5 (f2_findLasting_b26_body K12) FU
set_option maxRecDepth 4000 in
theorem T2_findLasting_b26 {K12 : MM → Nat → Int32 → Int32 → Option MM} (hK12 : ∀ (M : MM) (a0 : Nat) (a1 : Int32) (a2 : Int32), X Lv i2_findLasting 12 [(0, vr a0), (1, vi a1), (2, vi a2)] [] M (K12 M a0 a1 a2)) : ∀ (M : MM) (a0 : Nat) (a1 : Int32) (a2 : Int32) (a3 : Int32), X Lv i2_findLasting 26 [(0, vr a0), (1, vi a1), (2, vi a2), (3, vi a3)] [] M (f2_findLasting_b26 K12 M a0 a1 a2 a3) := by
  obtain ⟨d26, d27, d29, d32, d33, d36, d37, d40, d41, d44, d45, d46, d49, d52, d53, d56, d57, d58, d61, d62, d69, d72, -⟩ := dd2_findLasting_b26
  refine LP5_i (P := fun M a0 a1 a2 a3 o => X Lv i2_findLasting 26 [(0, vr a0), (1, vi a1), (2, vi a2), (3, vi a3)] [] M o) (fun _ _ _ _ _ => X_none) (fun rc ih M a0 a1 a2 a3 => ?_) FU
  unfold f2_findLasting_b26_body
  refine X_iloadn 3 d26 rfl ?_
  refine X_bipush k_b_30 d27 ?_
  refine X_icmp_ge (t := 69) d29 rfl (fun h29 => ?_) (fun h29 => ?_)
  · refine X_inc (lv' := [(2, vi (a2 + (1 : Int32))), (0, vr a0), (1, vi a1), (3, vi a3)]) 2 d69 k_i_1 rfl (by decide) rfl ?_
    refine X_goto (t := 12) d72 rfl ?_
    refine X_sub [1, 2, 0] rfl ?_
    exact hK12 M a0 a1 (a2 + (1 : Int32))
  · refine X_aloadn 0 d32 rfl ?_
    refine X_getR d33 fg_x2_20 ?_
    refine X_iloadn 3 d36 rfl ?_
    refine X_cVi (as := [vi a3]) d37 cv_x2_72 ⟨by decide, by decide⟩ rfl (Nat.le_of_ble_eq_true rfl) (T3_get M (mR M a0 1) a3) (fun r37 M37 _ => ?_)
    refine X_iconst k_i_1 d40 ?_
    refine X_icmp_ne (t := 63) d41 rfl (fun h41 => ?_) (fun h41 => ?_)
    · refine X_aloadn 0 d44 rfl ?_
      refine X_iloadn 3 d45 rfl ?_
      refine X_cVi (as := [vi a3]) d46 cv_x2_128 ⟨by decide, by decide⟩ rfl (Nat.le_of_ble_eq_true rfl) (T2_leadsToLasting M37 a0 a3) (fun r46 M46 _ => ?_)
      refine X_if_ne (t := 63) d49 rfl (fun h49 => ?_) (fun h49 => ?_)
      · refine X_aloadn 0 d52 rfl ?_
        refine X_getR d53 fg_x2_20 ?_
        refine X_iloadn 3 d56 rfl ?_
        refine X_iconst k_i_0 d57 ?_
        refine X_cVv (as := [vi a3, vi (0 : Int32)]) d58 cv_x2_107 ⟨by decide, by decide⟩ rfl (Nat.le_of_ble_eq_true rfl) (T3_set M46 (mR M46 a0 1) a3 (0 : Int32)) (fun M58 _ => ?_)
        refine X_iconst k_i_1 d61 ?_
        refine X_istoren (lv' := [(1, vi (1 : Int32)), (0, vr a0), (2, vi a2), (3, vi a3)]) d62 (by decide) rfl ?_
        refine X_sub [1, 0, 2, 3] rfl ?_
        exact (T2_findLasting_b63 ih) M58 a0 (1 : Int32) a2 a3
      · exact (T2_findLasting_b63 ih) M46 a0 a1 a2 a3
    · exact (T2_findLasting_b63 ih) M37 a0 a1 a2 a3

theorem dd2_findLasting_b12 : AllD (ib i2_findLasting) [(12, .iload_n 1, 1), (13, .ifCond .eq 62, 3), (16, .iload_n 2, 1), (17, .bipush 30, 2), (19, .if_icmp .gt 56, 3), (22, .iconst 0, 1), (23, .istore_n 1, 1), (24, .iconst 0, 1), (25, .istore_n 3, 1), (75, .return_, 1)] := allD_of (by decide +kernel)
def f2_findLasting_b12_body (rc : MM → Nat → Int32 → Int32 → Option MM) (M : MM) (a0 : Nat) (a1 : Int32) (a2 : Int32) : Option MM :=
  if a1 = 0 then
    some M
  else
    if (30 : Int32) < a2 then
      some M
    else
      (f2_findLasting_b26 rc) M a0 (0 : Int32) a2 (0 : Int32)
def f2_findLasting_b12 : MM → Nat → Int32 → Int32 → Option MM := LP4 (f2_findLasting_b12_body) FU
set_option maxRecDepth 4000 in
theorem T2_findLasting_b12 : ∀ (M : MM) (a0 : Nat) (a1 : Int32) (a2 : Int32), X Lv i2_findLasting 12 [(0, vr a0), (1, vi a1), (2, vi a2)] [] M (f2_findLasting_b12 M a0 a1 a2) := by
  obtain ⟨d12, d13, d16, d17, d19, d22, d23, d24, d25, d75, -⟩ := dd2_findLasting_b12
  refine LP4_i (P := fun M a0 a1 a2 o => X Lv i2_findLasting 12 [(0, vr a0), (1, vi a1), (2, vi a2)] [] M o) (fun _ _ _ _ => X_none) (fun rc ih M a0 a1 a2 => ?_) FU
  unfold f2_findLasting_b12_body
  refine X_iloadn 1 d12 rfl ?_
  refine X_if_eq (t := 75) d13 rfl (fun h13 => ?_) (fun h13 => ?_)
  · exact X_vreturn d75 rfl rfl
  · refine X_iloadn 2 d16 rfl ?_
    refine X_bipush k_b_30 d17 ?_
    refine X_icmp_gt (t := 75) d19 rfl (fun h19 => ?_) (fun h19 => ?_)
    · exact X_vreturn d75 rfl rfl
    · refine X_iconst k_i_0 d22 ?_
      refine X_istoren (lv' := [(1, vi (0 : Int32)), (0, vr a0), (2, vi a2)]) d23 (by decide) rfl ?_
      refine X_iconst k_i_0 d24 ?_
      refine X_istoren (lv' := [(3, vi (0 : Int32)), (1, vi (0 : Int32)), (0, vr a0), (2, vi a2)]) d25 (by decide) rfl ?_
      refine X_sub [2, 1, 3, 0] rfl ?_
      exact (T2_findLasting_b26 ih) M a0 (0 : Int32) a2 (0 : Int32)

theorem dd2_findLasting : AllD (ib i2_findLasting) [(0, .aload_n 0, 1), (1, .getfield 20, 3), (4, .iconst 1, 1), (5, .invokevirtual 76, 3), (8, .iconst 1, 1), (9, .istore_n 1, 1), (10, .iconst 0, 1), (11, .istore_n 2, 1)] := allD_of (by decide +kernel)
def f2_findLasting (M : MM) (a0 : Nat) : Option MM :=
  aO M a0 2 <|
  aO M (mR M a0 1) 3 <|
  cV (f3_fill M (mR M a0 1) (1 : Int32)) fun M5 =>
  f2_findLasting_b12 M5 a0 (1 : Int32) (0 : Int32)
set_option maxRecDepth 4000 in
theorem T2_findLasting (M : MM) (a0 : Nat) : ∀ q, f2_findLasting M a0 = some q → Run i2_findLasting [vr a0] M (Lv q) := by
  obtain ⟨d0, d1, d4, d5, d8, d9, d10, d11, -⟩ := dd2_findLasting
  refine Run_of_X (by decide) (Nat.le_of_ble_eq_true rfl) ?_
  show X Lv i2_findLasting 0 [(0, vr a0)] [] M _
  unfold f2_findLasting
  refine X_aloadn 0 d0 rfl ?_
  refine X_getR d1 fg_x2_20 ?_
  refine X_iconst k_i_1 d4 ?_
  refine X_cVv (as := [vi (1 : Int32)]) d5 cv_x2_76 ⟨by decide, by decide⟩ rfl (Nat.le_of_ble_eq_true rfl) (T3_fill M (mR M a0 1) (1 : Int32)) (fun M5 _ => ?_)
  refine X_iconst k_i_1 d8 ?_
  refine X_istoren (lv' := [(1, vi (1 : Int32)), (0, vr a0)]) d9 (by decide) rfl ?_
  refine X_iconst k_i_0 d10 ?_
  refine X_istoren (lv' := [(2, vi (0 : Int32)), (1, vi (1 : Int32)), (0, vr a0)]) d11 (by decide) rfl ?_
  refine X_sub [2, 1, 0] rfl ?_
  exact T2_findLasting_b12 M5 a0 (1 : Int32) (0 : Int32)

theorem dd2_toPop : AllD (ib i2_toPop) [(0, .aload_n 0, 1), (1, .getfield 30, 3), (4, .iload_n 1, 1), (5, .iload_n 2, 1), (6, .invokestatic 57, 3), (9, .iconst 5, 1), (10, .imul, 1), (11, .iload_n 3, 1), (12, .iadd, 1), (13, .invokevirtual 153, 3), (16, .lreturn, 1)] := allD_of (by decide +kernel)
def f2_toPop (M : MM) (a0 : Nat) (a1 : Int32) (a2 : Int32) (a3 : Int32) : Option (Int64 × MM) :=
  aO M a0 2 <|
  cI (f2_headOf M a1 a2) fun r6 M6 =>
  aO M6 (mR M a0 3) 4 <|
  cJ (f4_get M6 (mR M a0 3) ((r6 * (5 : Int32)) + a3)) fun r13 M13 =>
  some (r13, M13)
set_option maxRecDepth 4000 in
theorem T2_toPop (M : MM) (a0 : Nat) (a1 : Int32) (a2 : Int32) (a3 : Int32) : ∀ q, f2_toPop M a0 a1 a2 a3 = some q → Run i2_toPop [vr a0, vi a1, vi a2, vi a3] M (Ll q) := by
  obtain ⟨d0, d1, d4, d5, d6, d9, d10, d11, d12, d13, d16, -⟩ := dd2_toPop
  refine Run_of_X (by decide) (Nat.le_of_ble_eq_true rfl) ?_
  show X Ll i2_toPop 0 [(0, vr a0), (1, vi a1), (2, vi a2), (3, vi a3)] [] M _
  unfold f2_toPop
  refine X_aloadn 0 d0 rfl ?_
  refine X_getR d1 fg_x2_30 ?_
  refine X_iloadn 1 d4 rfl ?_
  refine X_iloadn 2 d5 rfl ?_
  refine X_cSi (as := [vi a1, vi a2]) d6 cs_x2_57 ⟨by decide, by decide⟩ rfl (Nat.le_of_ble_eq_true rfl) (T2_headOf M a1 a2) (fun r6 M6 _ => ?_)
  refine X_iconst k_i_5 d9 ?_
  refine X_imul d10 ?_
  refine X_iloadn 3 d11 rfl ?_
  refine X_iadd d12 ?_
  refine X_cVl (as := [vi ((r6 * (5 : Int32)) + a3)]) d13 cv_x2_153 ⟨by decide, by decide⟩ rfl (Nat.le_of_ble_eq_true rfl) (T4_get M6 (mR M a0 3) ((r6 * (5 : Int32)) + a3)) (fun r13 M13 _ => ?_)
  exact X_lreturn d16 rfl rfl

theorem dd2_toPopFirst : AllD (ib i2_toPopFirst) [(0, .aload_n 0, 1), (1, .aload_n 0, 1), (2, .getfield 43, 3), (5, .iload_n 1, 1), (6, .iconst 2, 1), (7, .invokevirtual 51, 3), (10, .aload_n 0, 1), (11, .getfield 43, 3), (14, .iload_n 1, 1), (15, .iconst 4, 1), (16, .invokevirtual 51, 3), (19, .iload_n 2, 1), (20, .invokevirtual 164, 3), (23, .lstore_n 3, 1), (24, .lconst 0, 1), (25, .lload_n 3, 1), (26, .invokestatic 156, 3), (29, .lreturn, 1)] := allD_of (by decide +kernel)
def f2_toPopFirst (M : MM) (a0 : Nat) (a1 : Int32) (a2 : Int32) : Option (Int64 × MM) :=
  aO M a0 2 <|
  aO M (mR M a0 7) 7 <|
  cI (f7_ofRule M (mR M a0 7) a1 (2 : Int32)) fun r7 M7 =>
  aO M7 a0 2 <|
  aO M7 (mR M7 a0 7) 7 <|
  cI (f7_ofRule M7 (mR M7 a0 7) a1 (4 : Int32)) fun r16 M16 =>
  aO M16 a0 2 <|
  cJ (f2_toPop M16 a0 r7 r16 a2) fun r20 M20 =>
  some (mxL (0 : Int64) r20, M20)
set_option maxRecDepth 4000 in
theorem T2_toPopFirst (M : MM) (a0 : Nat) (a1 : Int32) (a2 : Int32) : ∀ q, f2_toPopFirst M a0 a1 a2 = some q → Run i2_toPopFirst [vr a0, vi a1, vi a2] M (Ll q) := by
  obtain ⟨d0, d1, d2, d5, d6, d7, d10, d11, d14, d15, d16, d19, d20, d23, d24, d25, d26, d29, -⟩ := dd2_toPopFirst
  refine Run_of_X (by decide) (Nat.le_of_ble_eq_true rfl) ?_
  show X Ll i2_toPopFirst 0 [(0, vr a0), (1, vi a1), (2, vi a2)] [] M _
  unfold f2_toPopFirst
  refine X_aloadn 0 d0 rfl ?_
  refine X_aloadn 0 d1 rfl ?_
  refine X_getR d2 fg_x2_43 ?_
  refine X_iloadn 1 d5 rfl ?_
  refine X_iconst k_i_2 d6 ?_
  refine X_cVi (as := [vi a1, vi (2 : Int32)]) d7 cv_x2_51 ⟨by decide, by decide⟩ rfl (Nat.le_of_ble_eq_true rfl) (T7_ofRule M (mR M a0 7) a1 (2 : Int32)) (fun r7 M7 _ => ?_)
  refine X_aloadn 0 d10 rfl ?_
  refine X_getR d11 fg_x2_43 ?_
  refine X_iloadn 1 d14 rfl ?_
  refine X_iconst k_i_4 d15 ?_
  refine X_cVi (as := [vi a1, vi (4 : Int32)]) d16 cv_x2_51 ⟨by decide, by decide⟩ rfl (Nat.le_of_ble_eq_true rfl) (T7_ofRule M7 (mR M7 a0 7) a1 (4 : Int32)) (fun r16 M16 _ => ?_)
  refine X_iloadn 2 d19 rfl ?_
  refine X_cVl (as := [vi r7, vi r16, vi a2]) d20 cv_x2_164 ⟨by decide, by decide⟩ rfl (Nat.le_of_ble_eq_true rfl) (T2_toPop M16 a0 r7 r16 a2) (fun r20 M20 _ => ?_)
  refine X_lstoren (lv' := [(3, vl r20), (0, vr a0), (1, vi a1), (2, vi a2)]) d23 (by decide) rfl ?_
  refine X_lconst k_l_0 d24 ?_
  refine X_lloadn 0 d25 rfl ?_
  refine X_maxL d26 mw_x2_156 ⟨by decide, by decide⟩ (Nat.le_of_ble_eq_true rfl) ?_
  exact X_lreturn d29 rfl rfl

theorem dd2_joined_b12 : AllD (ib i2_joined) [(12, .ldc2_w 140, 3), (15, .goto 12, 3), (27, .lreturn, 1)] := allD_of (by decide +kernel)
def f2_joined_b12 (M : MM) : Option (Int64 × MM) :=
  some ((-1 : Int64), M)
set_option maxRecDepth 4000 in
theorem T2_joined_b12 : ∀ (M : MM), X Ll i2_joined 12 [] [] M (f2_joined_b12 M) := by
  obtain ⟨d12, d15, d27, -⟩ := dd2_joined_b12
  intro M
  unfold f2_joined_b12
  refine X_ldc2 kc_x2_140 d12 ?_
  refine X_goto (t := 27) d15 rfl ?_
  exact X_lreturn d27 rfl rfl

theorem dd2_joined : AllD (ib i2_joined) [(0, .lload_n 0, 1), (1, .lconst 0, 1), (2, .lcmp, 1), (3, .ifCond .lt 9, 3), (6, .lload_n 2, 1), (7, .lconst 0, 1), (8, .lcmp, 1), (9, .ifCond .ge 9, 3), (18, .lconst 1, 1), (19, .lload_n 0, 1), (20, .lload_n 2, 1), (21, .invokestatic 149, 3), (24, .invokestatic 149, 3), (27, .lreturn, 1)] := allD_of (by decide +kernel)
def f2_joined (M : MM) (a0 : Int64) (a2 : Int64) : Option (Int64 × MM) :=
  if a0 < (0 : Int64) then
    f2_joined_b12 M
  else
    if (0 : Int64) ≤ a2 then
      cJ (f4_sum M a0 a2) fun r21 M21 =>
      cJ (f4_sum M21 (1 : Int64) r21) fun r24 M24 =>
      some (r24, M24)
    else
      f2_joined_b12 M
set_option maxRecDepth 4000 in
theorem T2_joined (M : MM) (a0 : Int64) (a2 : Int64) : ∀ q, f2_joined M a0 a2 = some q → Run i2_joined [vl a0, vl a2] M (Ll q) := by
  obtain ⟨d0, d1, d2, d3, d6, d7, d8, d9, d18, d19, d20, d21, d24, d27, -⟩ := dd2_joined
  refine Run_of_X (by decide) (Nat.le_of_ble_eq_true rfl) ?_
  show X Ll i2_joined 0 [(0, vl a0), (2, vl a2)] [] M _
  unfold f2_joined
  refine X_lloadn 0 d0 rfl ?_
  refine X_lconst k_l_0 d1 ?_
  refine X_lif_lt (t := 12) d2 d3 rfl (fun h2 => ?_) (fun h2 => ?_)
  · refine X_sub [] rfl ?_
    exact T2_joined_b12 M
  · refine X_lloadn 1 d6 rfl ?_
    refine X_lconst k_l_0 d7 ?_
    refine X_lif_ge (t := 18) d8 d9 rfl (fun h8 => ?_) (fun h8 => ?_)
    · refine X_lconst k_l_1 d18 ?_
      refine X_lloadn 0 d19 rfl ?_
      refine X_lloadn 1 d20 rfl ?_
      refine X_cSl (as := [vl a0, vl a2]) d21 cs_x2_149 ⟨by decide, by decide⟩ rfl (Nat.le_of_ble_eq_true rfl) (T4_sum M a0 a2) (fun r21 M21 _ => ?_)
      refine X_cSl (as := [vl (1 : Int64), vl r21]) d24 cs_x2_149 ⟨by decide, by decide⟩ rfl (Nat.le_of_ble_eq_true rfl) (T4_sum M21 (1 : Int64) r21) (fun r24 M24 _ => ?_)
      exact X_lreturn d27 rfl rfl
    · refine X_sub [] rfl ?_
      exact T2_joined_b12 M

theorem dd2_toPopBy_b78 : AllD (ib i2_toPopBy) [(78, .iload 8, 2), (80, .aload_n 0, 1), (81, .getfield 43, 3), (84, .getfield 90, 3), (87, .if_icmp .ge 37, 3), (90, .lload 6, 2), (92, .aload_n 0, 1), (93, .iload_n 3, 1), (94, .iload 4, 2), (96, .iload 8, 2), (98, .invokevirtual 164, 3), (101, .aload_n 0, 1), (102, .iload 8, 2), (104, .iload 5, 2), (106, .iload_n 2, 1), (107, .invokevirtual 164, 3), (110, .invokestatic 167, 3), (113, .invokestatic 156, 3), (116, .lstore 6, 2), (118, .iinc 8 1, 3), (121, .goto (-43), 3), (124, .lload 6, 2), (126, .lreturn, 1)] := allD_of (by decide +kernel)
def f2_toPopBy_b78_body (rc : MM → Nat → Int32 → Int32 → Int32 → Int32 → Int64 → Int32 → Option (Int64 × MM)) (M : MM) (a0 : Nat) (a2 : Int32) (a3 : Int32) (a4 : Int32) (a5 : Int32) (a6 : Int64) (a8 : Int32) : Option (Int64 × MM) :=
  aO M a0 2 <|
  aO M (mR M a0 7) 7 <|
  if (mI M (mR M a0 7) 4) ≤ a8 then
    some (a6, M)
  else
    aO M a0 2 <|
    cJ (f2_toPop M a0 a3 a4 a8) fun r98 M98 =>
    aO M98 a0 2 <|
    cJ (f2_toPop M98 a0 a8 a5 a2) fun r107 M107 =>
    cJ (f2_joined M107 r98 r107) fun r110 M110 =>
    bW (mxL a6 r110) fun v116 =>
    rc M110 a0 a2 a3 a4 a5 v116 (a8 + (1 : Int32))
def f2_toPopBy_b78 : MM → Nat → Int32 → Int32 → Int32 → Int32 → Int64 → Int32 → Option (Int64 × MM) := LP8 (f2_toPopBy_b78_body) FU
set_option maxRecDepth 4000 in
theorem T2_toPopBy_b78 : ∀ (M : MM) (a0 : Nat) (a2 : Int32) (a3 : Int32) (a4 : Int32) (a5 : Int32) (a6 : Int64) (a8 : Int32), X Ll i2_toPopBy 78 [(0, vr a0), (2, vi a2), (3, vi a3), (4, vi a4), (5, vi a5), (6, vl a6), (8, vi a8)] [] M (f2_toPopBy_b78 M a0 a2 a3 a4 a5 a6 a8) := by
  obtain ⟨d78, d80, d81, d84, d87, d90, d92, d93, d94, d96, d98, d101, d102, d104, d106, d107, d110, d113, d116, d118, d121, d124, d126, -⟩ := dd2_toPopBy_b78
  refine LP8_i (P := fun M a0 a2 a3 a4 a5 a6 a8 o => X Ll i2_toPopBy 78 [(0, vr a0), (2, vi a2), (3, vi a3), (4, vi a4), (5, vi a5), (6, vl a6), (8, vi a8)] [] M o) (fun _ _ _ _ _ _ _ _ => X_none) (fun rc ih M a0 a2 a3 a4 a5 a6 a8 => ?_) FU
  unfold f2_toPopBy_b78_body
  refine X_iload 6 d78 rfl ?_
  refine X_aloadn 0 d80 rfl ?_
  refine X_getR d81 fg_x2_43 ?_
  refine X_getI d84 fg_x2_90 ?_
  refine X_icmp_ge (t := 124) d87 rfl (fun h87 => ?_) (fun h87 => ?_)
  · refine X_lload 5 d124 rfl ?_
    exact X_lreturn d126 rfl rfl
  · refine X_lload 5 d90 rfl ?_
    refine X_aloadn 0 d92 rfl ?_
    refine X_iloadn 2 d93 rfl ?_
    refine X_iload 3 d94 rfl ?_
    refine X_iload 6 d96 rfl ?_
    refine X_cVl (as := [vi a3, vi a4, vi a8]) d98 cv_x2_164 ⟨by decide, by decide⟩ rfl (Nat.le_of_ble_eq_true rfl) (T2_toPop M a0 a3 a4 a8) (fun r98 M98 _ => ?_)
    refine X_aloadn 0 d101 rfl ?_
    refine X_iload 6 d102 rfl ?_
    refine X_iload 4 d104 rfl ?_
    refine X_iloadn 1 d106 rfl ?_
    refine X_cVl (as := [vi a8, vi a5, vi a2]) d107 cv_x2_164 ⟨by decide, by decide⟩ rfl (Nat.le_of_ble_eq_true rfl) (T2_toPop M98 a0 a8 a5 a2) (fun r107 M107 _ => ?_)
    refine X_cSl (as := [vl r98, vl r107]) d110 cs_x2_167 ⟨by decide, by decide⟩ rfl (Nat.le_of_ble_eq_true rfl) (T2_joined M107 r98 r107) (fun r110 M110 _ => ?_)
    refine X_maxL d113 mw_x2_156 ⟨by decide, by decide⟩ (Nat.le_of_ble_eq_true rfl) ?_
    refine X_bWl fun v116 _ => ?_
    refine X_lstore (lv' := [(6, vl v116), (0, vr a0), (2, vi a2), (3, vi a3), (4, vi a4), (5, vi a5), (8, vi a8)]) d116 (by decide) rfl ?_
    refine X_inc (lv' := [(8, vi (a8 + (1 : Int32))), (6, vl v116), (0, vr a0), (2, vi a2), (3, vi a3), (4, vi a4), (5, vi a5)]) 6 d118 k_i_1 rfl (by decide) rfl ?_
    refine X_goto (t := 78) d121 rfl ?_
    refine X_sub [2, 3, 4, 5, 6, 1, 0] rfl ?_
    exact ih M110 a0 a2 a3 a4 a5 v116 (a8 + (1 : Int32))

theorem dd2_toPopBy : AllD (ib i2_toPopBy) [(0, .aload_n 0, 1), (1, .getfield 43, 3), (4, .iload_n 1, 1), (5, .iconst 2, 1), (6, .invokevirtual 51, 3), (9, .istore_n 3, 1), (10, .aload_n 0, 1), (11, .getfield 43, 3), (14, .iload_n 1, 1), (15, .iconst 4, 1), (16, .invokevirtual 51, 3), (19, .istore 4, 2), (21, .aload_n 0, 1), (22, .getfield 43, 3), (25, .iload_n 1, 1), (26, .iconst 5, 1), (27, .invokevirtual 51, 3), (30, .istore 5, 2), (32, .iload 4, 2), (34, .iconst (-1), 1), (35, .if_icmp .ne 16, 3), (38, .iload_n 3, 1), (39, .iload_n 2, 1), (40, .if_icmp .ne 7, 3), (43, .lconst 1, 1), (44, .goto 6, 3), (47, .ldc2_w 140, 3), (50, .lreturn, 1), (51, .iload 5, 2), (53, .iconst (-1), 1), (54, .if_icmp .ne 16, 3), (57, .lconst 0, 1), (58, .aload_n 0, 1), (59, .iload_n 3, 1), (60, .iload 4, 2), (62, .iload_n 2, 1), (63, .invokevirtual 164, 3), (66, .invokestatic 167, 3), (69, .lreturn, 1), (70, .ldc2_w 140, 3), (73, .lstore 6, 2), (75, .iconst 0, 1), (76, .istore 8, 2)] := allD_of (by decide +kernel)
def f2_toPopBy (M : MM) (a0 : Nat) (a1 : Int32) (a2 : Int32) : Option (Int64 × MM) :=
  aO M a0 2 <|
  aO M (mR M a0 7) 7 <|
  cI (f7_ofRule M (mR M a0 7) a1 (2 : Int32)) fun r6 M6 =>
  aO M6 a0 2 <|
  aO M6 (mR M6 a0 7) 7 <|
  cI (f7_ofRule M6 (mR M6 a0 7) a1 (4 : Int32)) fun r16 M16 =>
  aO M16 a0 2 <|
  aO M16 (mR M16 a0 7) 7 <|
  cI (f7_ofRule M16 (mR M16 a0 7) a1 (5 : Int32)) fun r27 M27 =>
  if r16 = (-1 : Int32) then
    if r6 = a2 then
      some ((1 : Int64), M27)
    else
      some ((-1 : Int64), M27)
  else
    if r27 = (-1 : Int32) then
      aO M27 a0 2 <|
      cJ (f2_toPop M27 a0 r6 r16 a2) fun r63 M63 =>
      cJ (f2_joined M63 (0 : Int64) r63) fun r66 M66 =>
      some (r66, M66)
    else
      f2_toPopBy_b78 M27 a0 a2 r6 r16 r27 (-1 : Int64) (0 : Int32)
set_option maxRecDepth 4000 in
theorem T2_toPopBy (M : MM) (a0 : Nat) (a1 : Int32) (a2 : Int32) : ∀ q, f2_toPopBy M a0 a1 a2 = some q → Run i2_toPopBy [vr a0, vi a1, vi a2] M (Ll q) := by
  obtain ⟨d0, d1, d4, d5, d6, d9, d10, d11, d14, d15, d16, d19, d21, d22, d25, d26, d27, d30, d32, d34, d35, d38, d39, d40, d43, d44, d47, d50, d51, d53, d54, d57, d58, d59, d60, d62, d63, d66, d69, d70, d73, d75, d76, -⟩ := dd2_toPopBy
  refine Run_of_X (by decide) (Nat.le_of_ble_eq_true rfl) ?_
  show X Ll i2_toPopBy 0 [(0, vr a0), (1, vi a1), (2, vi a2)] [] M _
  unfold f2_toPopBy
  refine X_aloadn 0 d0 rfl ?_
  refine X_getR d1 fg_x2_43 ?_
  refine X_iloadn 1 d4 rfl ?_
  refine X_iconst k_i_2 d5 ?_
  refine X_cVi (as := [vi a1, vi (2 : Int32)]) d6 cv_x2_51 ⟨by decide, by decide⟩ rfl (Nat.le_of_ble_eq_true rfl) (T7_ofRule M (mR M a0 7) a1 (2 : Int32)) (fun r6 M6 _ => ?_)
  refine X_istoren (lv' := [(3, vi r6), (0, vr a0), (1, vi a1), (2, vi a2)]) d9 (by decide) rfl ?_
  refine X_aloadn 1 d10 rfl ?_
  refine X_getR d11 fg_x2_43 ?_
  refine X_iloadn 2 d14 rfl ?_
  refine X_iconst k_i_4 d15 ?_
  refine X_cVi (as := [vi a1, vi (4 : Int32)]) d16 cv_x2_51 ⟨by decide, by decide⟩ rfl (Nat.le_of_ble_eq_true rfl) (T7_ofRule M6 (mR M6 a0 7) a1 (4 : Int32)) (fun r16 M16 _ => ?_)
  refine X_istore (lv' := [(4, vi r16), (3, vi r6), (0, vr a0), (1, vi a1), (2, vi a2)]) d19 (by decide) rfl ?_
  refine X_aloadn 2 d21 rfl ?_
  refine X_getR d22 fg_x2_43 ?_
  refine X_iloadn 3 d25 rfl ?_
  refine X_iconst k_i_5 d26 ?_
  refine X_cVi (as := [vi a1, vi (5 : Int32)]) d27 cv_x2_51 ⟨by decide, by decide⟩ rfl (Nat.le_of_ble_eq_true rfl) (T7_ofRule M16 (mR M16 a0 7) a1 (5 : Int32)) (fun r27 M27 _ => ?_)
  refine X_istore (lv' := [(5, vi r27), (4, vi r16), (3, vi r6), (0, vr a0), (1, vi a1), (2, vi a2)]) d30 (by decide) rfl ?_
  refine X_iload 1 d32 rfl ?_
  refine X_iconst k_i_m1 d34 ?_
  refine X_icmp_ne (t := 51) d35 rfl (fun h35 => ?_) (fun h35 => ?_)
  · refine X_iloadn 2 d38 rfl ?_
    refine X_iloadn 5 d39 rfl ?_
    refine X_icmp_ne (t := 47) d40 rfl (fun h40 => ?_) (fun h40 => ?_)
    · refine X_lconst k_l_1 d43 ?_
      refine X_goto (t := 50) d44 rfl ?_
      exact X_lreturn d50 rfl rfl
    · refine X_ldc2 kc_x2_140 d47 ?_
      exact X_lreturn d50 rfl rfl
  · refine X_iload 0 d51 rfl ?_
    refine X_iconst k_i_m1 d53 ?_
    refine X_icmp_ne (t := 70) d54 rfl (fun h54 => ?_) (fun h54 => ?_)
    · refine X_lconst k_l_0 d57 ?_
      refine X_aloadn 3 d58 rfl ?_
      refine X_iloadn 2 d59 rfl ?_
      refine X_iload 1 d60 rfl ?_
      refine X_iloadn 5 d62 rfl ?_
      refine X_cVl (as := [vi r6, vi r16, vi a2]) d63 cv_x2_164 ⟨by decide, by decide⟩ rfl (Nat.le_of_ble_eq_true rfl) (T2_toPop M27 a0 r6 r16 a2) (fun r63 M63 _ => ?_)
      refine X_cSl (as := [vl (0 : Int64), vl r63]) d66 cs_x2_167 ⟨by decide, by decide⟩ rfl (Nat.le_of_ble_eq_true rfl) (T2_joined M63 (0 : Int64) r63) (fun r66 M66 _ => ?_)
      exact X_lreturn d69 rfl rfl
    · refine X_ldc2 kc_x2_140 d70 ?_
      refine X_lstore (lv' := [(6, vl (-1 : Int64)), (5, vi r27), (4, vi r16), (3, vi r6), (0, vr a0), (1, vi a1), (2, vi a2)]) d73 (by decide) rfl ?_
      refine X_iconst k_i_0 d75 ?_
      refine X_istore (lv' := [(8, vi (0 : Int32)), (6, vl (-1 : Int64)), (5, vi r27), (4, vi r16), (3, vi r6), (0, vr a0), (1, vi a1), (2, vi a2)]) d76 (by decide) rfl ?_
      refine X_sub [5, 7, 4, 3, 2, 1, 0] rfl ?_
      exact T2_toPopBy_b78 M27 a0 a2 r6 r16 r27 (-1 : Int64) (0 : Int32)

theorem dd2_lengthensBy_b51 : AllD (ib i2_lengthensBy) [(51, .lstore 7, 2), (53, .lload_n 3, 1), (54, .lconst 1, 1), (55, .lload 7, 2), (57, .invokestatic 149, 3), (60, .aload_n 0, 1), (61, .getfield 26, 3), (64, .iload 6, 2), (66, .invokevirtual 153, 3), (69, .invokestatic 149, 3), (72, .invokestatic 156, 3), (75, .lstore_n 3, 1)] := allD_of (by decide +kernel)
def f2_lengthensBy_b51 (K76 : MM → Nat → Int32 → Int32 → Int64 → Int32 → Option (Int32 × MM)) (M : MM) (a0 : Nat) (a1 : Int32) (a2 : Int32) (a3 : Int64) (a5 : Int32) (a6 : Int32) (s0 : Int64) : Option (Int32 × MM) :=
  cJ (f4_sum M (1 : Int64) s0) fun r57 M57 =>
  aO M57 a0 2 <|
  aO M57 (mR M57 a0 2) 4 <|
  cJ (f4_get M57 (mR M57 a0 2) a6) fun r66 M66 =>
  cJ (f4_sum M66 r57 r66) fun r69 M69 =>
  bW (mxL a3 r69) fun v75 =>
  K76 M69 a0 a1 a2 v75 a5
set_option maxRecDepth 4000 in
theorem T2_lengthensBy_b51 {K76 : MM → Nat → Int32 → Int32 → Int64 → Int32 → Option (Int32 × MM)} (hK76 : ∀ (M : MM) (a0 : Nat) (a1 : Int32) (a2 : Int32) (a3 : Int64) (a5 : Int32), X Li i2_lengthensBy 76 [(0, vr a0), (1, vi a1), (2, vi a2), (3, vl a3), (5, vi a5)] [] M (K76 M a0 a1 a2 a3 a5)) : ∀ (M : MM) (a0 : Nat) (a1 : Int32) (a2 : Int32) (a3 : Int64) (a5 : Int32) (a6 : Int32) (s0 : Int64), X Li i2_lengthensBy 51 [(0, vr a0), (1, vi a1), (2, vi a2), (3, vl a3), (5, vi a5), (6, vi a6)] [vl s0] M (f2_lengthensBy_b51 K76 M a0 a1 a2 a3 a5 a6 s0) := by
  obtain ⟨d51, d53, d54, d55, d57, d60, d61, d64, d66, d69, d72, d75, -⟩ := dd2_lengthensBy_b51
  intro M a0 a1 a2 a3 a5 a6 s0
  unfold f2_lengthensBy_b51
  refine X_lstore (lv' := [(7, vl s0), (0, vr a0), (1, vi a1), (2, vi a2), (3, vl a3), (5, vi a5), (6, vi a6)]) d51 (by decide) rfl ?_
  refine X_lloadn 4 d53 rfl ?_
  refine X_lconst k_l_1 d54 ?_
  refine X_lload 0 d55 rfl ?_
  refine X_cSl (as := [vl (1 : Int64), vl s0]) d57 cs_x2_149 ⟨by decide, by decide⟩ rfl (Nat.le_of_ble_eq_true rfl) (T4_sum M (1 : Int64) s0) (fun r57 M57 _ => ?_)
  refine X_aloadn 1 d60 rfl ?_
  refine X_getR d61 fg_x2_26 ?_
  refine X_iload 6 d64 rfl ?_
  refine X_cVl (as := [vi a6]) d66 cv_x2_153 ⟨by decide, by decide⟩ rfl (Nat.le_of_ble_eq_true rfl) (T4_get M57 (mR M57 a0 2) a6) (fun r66 M66 _ => ?_)
  refine X_cSl (as := [vl r57, vl r66]) d69 cs_x2_149 ⟨by decide, by decide⟩ rfl (Nat.le_of_ble_eq_true rfl) (T4_sum M66 r57 r66) (fun r69 M69 _ => ?_)
  refine X_maxL d72 mw_x2_156 ⟨by decide, by decide⟩ (Nat.le_of_ble_eq_true rfl) ?_
  refine X_bWl fun v75 _ => ?_
  refine X_lstoren (lv' := [(3, vl v75), (7, vl s0), (0, vr a0), (1, vi a1), (2, vi a2), (5, vi a5), (6, vi a6)]) d75 (by decide) rfl ?_
  refine X_sub [2, 3, 4, 0, 5] rfl ?_
  exact hK76 M69 a0 a1 a2 v75 a5

theorem dd2_lengthensBy_b76 : AllD (ib i2_lengthensBy) [(76, .iinc 5 1, 3), (79, .goto (-72), 3)] := allD_of (by decide +kernel)
def f2_lengthensBy_b76 (K7 : MM → Nat → Int32 → Int32 → Int64 → Int32 → Option (Int32 × MM)) (M : MM) (a0 : Nat) (a1 : Int32) (a2 : Int32) (a3 : Int64) (a5 : Int32) : Option (Int32 × MM) :=
  K7 M a0 a1 a2 a3 (a5 + (1 : Int32))
set_option maxRecDepth 4000 in
theorem T2_lengthensBy_b76 {K7 : MM → Nat → Int32 → Int32 → Int64 → Int32 → Option (Int32 × MM)} (hK7 : ∀ (M : MM) (a0 : Nat) (a1 : Int32) (a2 : Int32) (a3 : Int64) (a5 : Int32), X Li i2_lengthensBy 7 [(0, vr a0), (1, vi a1), (2, vi a2), (3, vl a3), (5, vi a5)] [] M (K7 M a0 a1 a2 a3 a5)) : ∀ (M : MM) (a0 : Nat) (a1 : Int32) (a2 : Int32) (a3 : Int64) (a5 : Int32), X Li i2_lengthensBy 76 [(0, vr a0), (1, vi a1), (2, vi a2), (3, vl a3), (5, vi a5)] [] M (f2_lengthensBy_b76 K7 M a0 a1 a2 a3 a5) := by
  obtain ⟨d76, d79, -⟩ := dd2_lengthensBy_b76
  intro M a0 a1 a2 a3 a5
  unfold f2_lengthensBy_b76
  refine X_inc (lv' := [(5, vi (a5 + (1 : Int32))), (0, vr a0), (1, vi a1), (2, vi a2), (3, vl a3)]) 4 d76 k_i_1 rfl (by decide) rfl ?_
  refine X_goto (t := 7) d79 rfl ?_
  refine X_sub [1, 2, 3, 4, 0] rfl ?_
  exact hK7 M a0 a1 a2 a3 (a5 + (1 : Int32))

theorem dd2_lengthensBy_b177 : AllD (ib i2_lengthensBy) [(177, .iinc 6 1, 3), (180, .goto (-62), 3)] := allD_of (by decide +kernel)
def f2_lengthensBy_b177 (K118 : MM → Nat → Int32 → Int32 → Int32 → Int32 → Option (Int32 × MM)) (M : MM) (a0 : Nat) (a1 : Int32) (a2 : Int32) (a5 : Int32) (a6 : Int32) : Option (Int32 × MM) :=
  K118 M a0 a1 a2 a5 (a6 + (1 : Int32))
set_option maxRecDepth 4000 in
theorem T2_lengthensBy_b177 {K118 : MM → Nat → Int32 → Int32 → Int32 → Int32 → Option (Int32 × MM)} (hK118 : ∀ (M : MM) (a0 : Nat) (a1 : Int32) (a2 : Int32) (a5 : Int32) (a6 : Int32), X Li i2_lengthensBy 118 [(0, vr a0), (1, vi a1), (2, vi a2), (5, vi a5), (6, vi a6)] [] M (K118 M a0 a1 a2 a5 a6)) : ∀ (M : MM) (a0 : Nat) (a1 : Int32) (a2 : Int32) (a5 : Int32) (a6 : Int32), X Li i2_lengthensBy 177 [(0, vr a0), (1, vi a1), (2, vi a2), (5, vi a5), (6, vi a6)] [] M (f2_lengthensBy_b177 K118 M a0 a1 a2 a5 a6) := by
  obtain ⟨d177, d180, -⟩ := dd2_lengthensBy_b177
  intro M a0 a1 a2 a5 a6
  unfold f2_lengthensBy_b177
  refine X_inc (lv' := [(6, vi (a6 + (1 : Int32))), (0, vr a0), (1, vi a1), (2, vi a2), (5, vi a5)]) 4 d177 k_i_1 rfl (by decide) rfl ?_
  refine X_goto (t := 118) d180 rfl ?_
  refine X_sub [1, 2, 3, 4, 0] rfl ?_
  exact hK118 M a0 a1 a2 a5 (a6 + (1 : Int32))

theorem dd2_lengthensBy_b118 : AllD (ib i2_lengthensBy) [(118, .iload 6, 2), (120, .aload_n 0, 1), (121, .getfield 43, 3), (124, .getfield 90, 3), (127, .if_icmp .ge 56, 3), (130, .aload_n 0, 1), (131, .iload_n 1, 1), (132, .iload 6, 2), (134, .invokevirtual 161, 3), (137, .lstore 7, 2), (139, .lload 7, 2), (141, .aload_n 0, 1), (142, .getfield 30, 3), (145, .iload 5, 2), (147, .iconst 5, 1), (148, .imul, 1), (149, .iload 6, 2), (151, .iadd, 1), (152, .invokevirtual 153, 3), (155, .lcmp, 1), (156, .ifCond .le 21, 3), (159, .aload_n 0, 1), (160, .getfield 30, 3), (163, .iload 5, 2), (165, .iconst 5, 1), (166, .imul, 1), (167, .iload 6, 2), (169, .iadd, 1), (170, .lload 7, 2), (172, .invokevirtual 158, 3), (175, .iconst 1, 1), (176, .istore_n 2, 1), (183, .iload_n 2, 1), (184, .ireturn, 1)] := allD_of (by decide +kernel)
def f2_lengthensBy_b118_body (rc : MM → Nat → Int32 → Int32 → Int32 → Int32 → Option (Int32 × MM)) (M : MM) (a0 : Nat) (a1 : Int32) (a2 : Int32) (a5 : Int32) (a6 : Int32) : Option (Int32 × MM) :=
  aO M a0 2 <|
  aO M (mR M a0 7) 7 <|
  if (mI M (mR M a0 7) 4) ≤ a6 then
    gd (a2 = 0 ∨ a2 = 1) <|
    some (a2, M)
  else
    aO M a0 2 <|
    cJ (f2_toPopBy M a0 a1 a6) fun r134 M134 =>
    aO M134 a0 2 <|
    aO M134 (mR M134 a0 3) 4 <|
    cJ (f4_get M134 (mR M134 a0 3) ((a5 * (5 : Int32)) + a6)) fun r152 M152 =>
    if r134 ≤ r152 then
      (f2_lengthensBy_b177 rc) M152 a0 a1 a2 a5 a6
    else
      aO M152 a0 2 <|
      aO M152 (mR M152 a0 3) 4 <|
      cV (f4_set M152 (mR M152 a0 3) ((a5 * (5 : Int32)) + a6) r134) fun M172 =>
      (f2_lengthensBy_b177 rc) M172 a0 a1 (1 : Int32) a5 a6
def f2_lengthensBy_b118 : MM → Nat → Int32 → Int32 → Int32 → Int32 → Option (Int32 × MM) := LP6 (f2_lengthensBy_b118_body) FU
set_option maxRecDepth 4000 in
theorem T2_lengthensBy_b118 : ∀ (M : MM) (a0 : Nat) (a1 : Int32) (a2 : Int32) (a5 : Int32) (a6 : Int32), X Li i2_lengthensBy 118 [(0, vr a0), (1, vi a1), (2, vi a2), (5, vi a5), (6, vi a6)] [] M (f2_lengthensBy_b118 M a0 a1 a2 a5 a6) := by
  obtain ⟨d118, d120, d121, d124, d127, d130, d131, d132, d134, d137, d139, d141, d142, d145, d147, d148, d149, d151, d152, d155, d156, d159, d160, d163, d165, d166, d167, d169, d170, d172, d175, d176, d183, d184, -⟩ := dd2_lengthensBy_b118
  refine LP6_i (P := fun M a0 a1 a2 a5 a6 o => X Li i2_lengthensBy 118 [(0, vr a0), (1, vi a1), (2, vi a2), (5, vi a5), (6, vi a6)] [] M o) (fun _ _ _ _ _ _ => X_none) (fun rc ih M a0 a1 a2 a5 a6 => ?_) FU
  unfold f2_lengthensBy_b118_body
  refine X_iload 4 d118 rfl ?_
  refine X_aloadn 0 d120 rfl ?_
  refine X_getR d121 fg_x2_43 ?_
  refine X_getI d124 fg_x2_90 ?_
  refine X_icmp_ge (t := 183) d127 rfl (fun h127 => ?_) (fun h127 => ?_)
  · refine X_iloadn 2 d183 rfl ?_
    exact X_zreturn d184 rfl rfl
  · refine X_aloadn 0 d130 rfl ?_
    refine X_iloadn 1 d131 rfl ?_
    refine X_iload 4 d132 rfl ?_
    refine X_cVl (as := [vi a1, vi a6]) d134 cv_x2_161 ⟨by decide, by decide⟩ rfl (Nat.le_of_ble_eq_true rfl) (T2_toPopBy M a0 a1 a6) (fun r134 M134 _ => ?_)
    refine X_lstore (lv' := [(7, vl r134), (0, vr a0), (1, vi a1), (2, vi a2), (5, vi a5), (6, vi a6)]) d137 (by decide) rfl ?_
    refine X_lload 0 d139 rfl ?_
    refine X_aloadn 1 d141 rfl ?_
    refine X_getR d142 fg_x2_30 ?_
    refine X_iload 4 d145 rfl ?_
    refine X_iconst k_i_5 d147 ?_
    refine X_imul d148 ?_
    refine X_iload 5 d149 rfl ?_
    refine X_iadd d151 ?_
    refine X_cVl (as := [vi ((a5 * (5 : Int32)) + a6)]) d152 cv_x2_153 ⟨by decide, by decide⟩ rfl (Nat.le_of_ble_eq_true rfl) (T4_get M134 (mR M134 a0 3) ((a5 * (5 : Int32)) + a6)) (fun r152 M152 _ => ?_)
    refine X_lif_le (t := 177) d155 d156 rfl (fun h155 => ?_) (fun h155 => ?_)
    · refine X_sub [1, 2, 3, 4, 5] rfl ?_
      exact (T2_lengthensBy_b177 ih) M152 a0 a1 a2 a5 a6
    · refine X_aloadn 1 d159 rfl ?_
      refine X_getR d160 fg_x2_30 ?_
      refine X_iload 4 d163 rfl ?_
      refine X_iconst k_i_5 d165 ?_
      refine X_imul d166 ?_
      refine X_iload 5 d167 rfl ?_
      refine X_iadd d169 ?_
      refine X_lload 0 d170 rfl ?_
      refine X_cVv (as := [vi ((a5 * (5 : Int32)) + a6), vl r134]) d172 cv_x2_158 ⟨by decide, by decide⟩ rfl (Nat.le_of_ble_eq_true rfl) (T4_set M152 (mR M152 a0 3) ((a5 * (5 : Int32)) + a6) r134) (fun M172 _ => ?_)
      refine X_iconst k_i_1 d175 ?_
      refine X_istoren (lv' := [(2, vi (1 : Int32)), (7, vl r134), (0, vr a0), (1, vi a1), (5, vi a5), (6, vi a6)]) d176 (by decide) rfl ?_
      refine X_sub [2, 3, 0, 4, 5] rfl ?_
      exact (T2_lengthensBy_b177 ih) M172 a0 a1 (1 : Int32) a5 a6

theorem dd2_lengthensBy_b115 : AllD (ib i2_lengthensBy) [(115, .iconst 0, 1), (116, .istore 6, 2)] := allD_of (by decide +kernel)
def f2_lengthensBy_b115 (M : MM) (a0 : Nat) (a1 : Int32) (a2 : Int32) (a5 : Int32) : Option (Int32 × MM) :=
  f2_lengthensBy_b118 M a0 a1 a2 a5 (0 : Int32)
set_option maxRecDepth 4000 in
theorem T2_lengthensBy_b115 : ∀ (M : MM) (a0 : Nat) (a1 : Int32) (a2 : Int32) (a5 : Int32), X Li i2_lengthensBy 115 [(0, vr a0), (1, vi a1), (2, vi a2), (5, vi a5)] [] M (f2_lengthensBy_b115 M a0 a1 a2 a5) := by
  obtain ⟨d115, d116, -⟩ := dd2_lengthensBy_b115
  intro M a0 a1 a2 a5
  unfold f2_lengthensBy_b115
  refine X_iconst k_i_0 d115 ?_
  refine X_istore (lv' := [(6, vi (0 : Int32)), (0, vr a0), (1, vi a1), (2, vi a2), (5, vi a5)]) d116 (by decide) rfl ?_
  refine X_sub [1, 2, 3, 4, 0] rfl ?_
  exact T2_lengthensBy_b118 M a0 a1 a2 a5 (0 : Int32)

theorem dd2_lengthensBy_b7 : AllD (ib i2_lengthensBy) [(7, .iload 5, 2), (9, .aload_n 0, 1), (10, .getfield 43, 3), (13, .getfield 90, 3), (16, .if_icmp .ge 66, 3), (19, .aload_n 0, 1), (20, .iload_n 1, 1), (21, .iload 5, 2), (23, .invokevirtual 93, 3), (26, .istore 6, 2), (28, .iload 6, 2), (30, .iconst (-1), 1), (31, .if_icmp .eq 45, 3), (34, .iload 5, 2), (36, .iconst (-1), 1), (37, .if_icmp .ne 7, 3), (40, .lconst 0, 1), (41, .goto 10, 3), (44, .aload_n 0, 1), (45, .iload_n 1, 1), (46, .iload 5, 2), (48, .invokevirtual 145, 3), (82, .aload_n 0, 1), (83, .iload_n 1, 1), (84, .invokevirtual 104, 3), (87, .istore 5, 2), (89, .lload_n 3, 1), (90, .aload_n 0, 1), (91, .getfield 26, 3), (94, .iload 5, 2), (96, .invokevirtual 153, 3), (99, .lcmp, 1), (100, .ifCond .le 15, 3), (103, .aload_n 0, 1), (104, .getfield 26, 3), (107, .iload 5, 2), (109, .lload_n 3, 1), (110, .invokevirtual 158, 3), (113, .iconst 1, 1), (114, .istore_n 2, 1)] := allD_of (by decide +kernel)
def f2_lengthensBy_b7_body (rc : MM → Nat → Int32 → Int32 → Int64 → Int32 → Option (Int32 × MM)) (M : MM) (a0 : Nat) (a1 : Int32) (a2 : Int32) (a3 : Int64) (a5 : Int32) : Option (Int32 × MM) :=
  aO M a0 2 <|
  aO M (mR M a0 7) 7 <|
  if (mI M (mR M a0 7) 4) ≤ a5 then
    aO M a0 2 <|
    cI (f2_headOfRule M a0 a1) fun r84 M84 =>
    aO M84 a0 2 <|
    aO M84 (mR M84 a0 2) 4 <|
    cJ (f4_get M84 (mR M84 a0 2) r84) fun r96 M96 =>
    if a3 ≤ r96 then
      f2_lengthensBy_b115 M96 a0 a1 a2 r84
    else
      aO M96 a0 2 <|
      aO M96 (mR M96 a0 2) 4 <|
      cV (f4_set M96 (mR M96 a0 2) r84 a3) fun M110 =>
      f2_lengthensBy_b115 M110 a0 a1 (1 : Int32) r84
  else
    aO M a0 2 <|
    cI (f2_headBehind M a0 a1 a5) fun r23 M23 =>
    if r23 = (-1 : Int32) then
      (f2_lengthensBy_b76 rc) M23 a0 a1 a2 a3 a5
    else
      if a5 = (-1 : Int32) then
        (f2_lengthensBy_b51 (f2_lengthensBy_b76 rc)) M23 a0 a1 a2 a3 a5 r23 (0 : Int64)
      else
        aO M23 a0 2 <|
        cJ (f2_toPopFirst M23 a0 a1 a5) fun r48 M48 =>
        (f2_lengthensBy_b51 (f2_lengthensBy_b76 rc)) M48 a0 a1 a2 a3 a5 r23 r48
def f2_lengthensBy_b7 : MM → Nat → Int32 → Int32 → Int64 → Int32 → Option (Int32 × MM) := LP6 (f2_lengthensBy_b7_body) FU
set_option maxRecDepth 4000 in
theorem T2_lengthensBy_b7 : ∀ (M : MM) (a0 : Nat) (a1 : Int32) (a2 : Int32) (a3 : Int64) (a5 : Int32), X Li i2_lengthensBy 7 [(0, vr a0), (1, vi a1), (2, vi a2), (3, vl a3), (5, vi a5)] [] M (f2_lengthensBy_b7 M a0 a1 a2 a3 a5) := by
  obtain ⟨d7, d9, d10, d13, d16, d19, d20, d21, d23, d26, d28, d30, d31, d34, d36, d37, d40, d41, d44, d45, d46, d48, d82, d83, d84, d87, d89, d90, d91, d94, d96, d99, d100, d103, d104, d107, d109, d110, d113, d114, -⟩ := dd2_lengthensBy_b7
  refine LP6_i (P := fun M a0 a1 a2 a3 a5 o => X Li i2_lengthensBy 7 [(0, vr a0), (1, vi a1), (2, vi a2), (3, vl a3), (5, vi a5)] [] M o) (fun _ _ _ _ _ _ => X_none) (fun rc ih M a0 a1 a2 a3 a5 => ?_) FU
  unfold f2_lengthensBy_b7_body
  refine X_iload 4 d7 rfl ?_
  refine X_aloadn 0 d9 rfl ?_
  refine X_getR d10 fg_x2_43 ?_
  refine X_getI d13 fg_x2_90 ?_
  refine X_icmp_ge (t := 82) d16 rfl (fun h16 => ?_) (fun h16 => ?_)
  · refine X_aloadn 0 d82 rfl ?_
    refine X_iloadn 1 d83 rfl ?_
    refine X_cVi (as := [vi a1]) d84 cv_x2_104 ⟨by decide, by decide⟩ rfl (Nat.le_of_ble_eq_true rfl) (T2_headOfRule M a0 a1) (fun r84 M84 _ => ?_)
    refine X_istore (lv' := [(5, vi r84), (0, vr a0), (1, vi a1), (2, vi a2), (3, vl a3)]) d87 (by decide) rfl ?_
    refine X_lloadn 4 d89 rfl ?_
    refine X_aloadn 1 d90 rfl ?_
    refine X_getR d91 fg_x2_26 ?_
    refine X_iload 0 d94 rfl ?_
    refine X_cVl (as := [vi r84]) d96 cv_x2_153 ⟨by decide, by decide⟩ rfl (Nat.le_of_ble_eq_true rfl) (T4_get M84 (mR M84 a0 2) r84) (fun r96 M96 _ => ?_)
    refine X_lif_le (t := 115) d99 d100 rfl (fun h99 => ?_) (fun h99 => ?_)
    · refine X_sub [1, 2, 3, 0] rfl ?_
      exact T2_lengthensBy_b115 M96 a0 a1 a2 r84
    · refine X_aloadn 1 d103 rfl ?_
      refine X_getR d104 fg_x2_26 ?_
      refine X_iload 0 d107 rfl ?_
      refine X_lloadn 4 d109 rfl ?_
      refine X_cVv (as := [vi r84, vl a3]) d110 cv_x2_158 ⟨by decide, by decide⟩ rfl (Nat.le_of_ble_eq_true rfl) (T4_set M96 (mR M96 a0 2) r84 a3) (fun M110 _ => ?_)
      refine X_iconst k_i_1 d113 ?_
      refine X_istoren (lv' := [(2, vi (1 : Int32)), (5, vi r84), (0, vr a0), (1, vi a1), (3, vl a3)]) d114 (by decide) rfl ?_
      refine X_sub [2, 3, 0, 1] rfl ?_
      exact T2_lengthensBy_b115 M110 a0 a1 (1 : Int32) r84
  · refine X_aloadn 0 d19 rfl ?_
    refine X_iloadn 1 d20 rfl ?_
    refine X_iload 4 d21 rfl ?_
    refine X_cVi (as := [vi a1, vi a5]) d23 cv_x2_93 ⟨by decide, by decide⟩ rfl (Nat.le_of_ble_eq_true rfl) (T2_headBehind M a0 a1 a5) (fun r23 M23 _ => ?_)
    refine X_istore (lv' := [(6, vi r23), (0, vr a0), (1, vi a1), (2, vi a2), (3, vl a3), (5, vi a5)]) d26 (by decide) rfl ?_
    refine X_iload 0 d28 rfl ?_
    refine X_iconst k_i_m1 d30 ?_
    refine X_icmp_eq (t := 76) d31 rfl (fun h31 => ?_) (fun h31 => ?_)
    · refine X_sub [1, 2, 3, 4, 5] rfl ?_
      exact (T2_lengthensBy_b76 ih) M23 a0 a1 a2 a3 a5
    · refine X_iload 5 d34 rfl ?_
      refine X_iconst k_i_m1 d36 ?_
      refine X_icmp_ne (t := 44) d37 rfl (fun h37 => ?_) (fun h37 => ?_)
      · refine X_lconst k_l_0 d40 ?_
        refine X_goto (t := 51) d41 rfl ?_
        refine X_sub [1, 2, 3, 4, 5, 0] rfl ?_
        exact (T2_lengthensBy_b51 (T2_lengthensBy_b76 ih)) M23 a0 a1 a2 a3 a5 r23 (0 : Int64)
      · refine X_aloadn 1 d44 rfl ?_
        refine X_iloadn 2 d45 rfl ?_
        refine X_iload 5 d46 rfl ?_
        refine X_cVl (as := [vi a1, vi a5]) d48 cv_x2_145 ⟨by decide, by decide⟩ rfl (Nat.le_of_ble_eq_true rfl) (T2_toPopFirst M23 a0 a1 a5) (fun r48 M48 _ => ?_)
        refine X_sub [1, 2, 3, 4, 5, 0] rfl ?_
        exact (T2_lengthensBy_b51 (T2_lengthensBy_b76 ih)) M48 a0 a1 a2 a3 a5 r23 r48

theorem dd2_lengthensBy : AllD (ib i2_lengthensBy) [(0, .iconst 0, 1), (1, .istore_n 2, 1), (2, .lconst 1, 1), (3, .lstore_n 3, 1), (4, .iconst (-1), 1), (5, .istore 5, 2)] := allD_of (by decide +kernel)
def f2_lengthensBy (M : MM) (a0 : Nat) (a1 : Int32) : Option (Int32 × MM) :=
  f2_lengthensBy_b7 M a0 a1 (0 : Int32) (1 : Int64) (-1 : Int32)
set_option maxRecDepth 4000 in
theorem T2_lengthensBy (M : MM) (a0 : Nat) (a1 : Int32) : ∀ q, f2_lengthensBy M a0 a1 = some q → Run i2_lengthensBy [vr a0, vi a1] M (Li q) := by
  obtain ⟨d0, d1, d2, d3, d4, d5, -⟩ := dd2_lengthensBy
  refine Run_of_X (by decide) (Nat.le_of_ble_eq_true rfl) ?_
  show X Li i2_lengthensBy 0 [(0, vr a0), (1, vi a1)] [] M _
  unfold f2_lengthensBy
  refine X_iconst k_i_0 d0 ?_
  refine X_istoren (lv' := [(2, vi (0 : Int32)), (0, vr a0), (1, vi a1)]) d1 (by decide) rfl ?_
  refine X_lconst k_l_1 d2 ?_
  refine X_lstoren (lv' := [(3, vl (1 : Int64)), (2, vi (0 : Int32)), (0, vr a0), (1, vi a1)]) d3 (by decide) rfl ?_
  refine X_iconst k_i_m1 d4 ?_
  refine X_istore (lv' := [(5, vi (-1 : Int32)), (3, vl (1 : Int64)), (2, vi (0 : Int32)), (0, vr a0), (1, vi a1)]) d5 (by decide) rfl ?_
  refine X_sub [3, 4, 2, 1, 0] rfl ?_
  exact T2_lengthensBy_b7 M a0 a1 (0 : Int32) (1 : Int64) (-1 : Int32)

theorem dd2_findMostSteps_b81 : AllD (ib i2_findMostSteps) [(81, .iconst 0, 1)] := allD_of (by decide +kernel)
def f2_findMostSteps_b81 (K82 : MM → Nat → Int32 → Int32 → Int32 → Int32 → Option MM) (M : MM) (a0 : Nat) (a1 : Int32) (a2 : Int32) (a3 : Int32) : Option MM :=
  K82 M a0 a1 a2 a3 (0 : Int32)
set_option maxRecDepth 4000 in
theorem T2_findMostSteps_b81 {K82 : MM → Nat → Int32 → Int32 → Int32 → Int32 → Option MM} (hK82 : ∀ (M : MM) (a0 : Nat) (a1 : Int32) (a2 : Int32) (a3 : Int32) (s0 : Int32), X Lv i2_findMostSteps 82 [(0, vr a0), (1, vi a1), (2, vi a2), (3, vi a3)] [vi s0] M (K82 M a0 a1 a2 a3 s0)) : ∀ (M : MM) (a0 : Nat) (a1 : Int32) (a2 : Int32) (a3 : Int32), X Lv i2_findMostSteps 81 [(0, vr a0), (1, vi a1), (2, vi a2), (3, vi a3)] [] M (f2_findMostSteps_b81 K82 M a0 a1 a2 a3) := by
  obtain ⟨d81, -⟩ := dd2_findMostSteps_b81
  intro M a0 a1 a2 a3
  unfold f2_findMostSteps_b81
  refine X_iconst k_i_0 d81 ?_
  exact hK82 M a0 a1 a2 a3 (0 : Int32)

theorem dd2_findMostSteps_b99 : AllD (ib i2_findMostSteps) [(99, .iinc 3 1, 3), (102, .goto (-66), 3)] := allD_of (by decide +kernel)
def f2_findMostSteps_b99 (K36 : MM → Nat → Int32 → Int32 → Int32 → Option MM) (M : MM) (a0 : Nat) (a1 : Int32) (a2 : Int32) (a3 : Int32) : Option MM :=
  K36 M a0 a1 a2 (a3 + (1 : Int32))
set_option maxRecDepth 4000 in
theorem T2_findMostSteps_b99 {K36 : MM → Nat → Int32 → Int32 → Int32 → Option MM} (hK36 : ∀ (M : MM) (a0 : Nat) (a1 : Int32) (a2 : Int32) (a3 : Int32), X Lv i2_findMostSteps 36 [(0, vr a0), (1, vi a1), (2, vi a2), (3, vi a3)] [] M (K36 M a0 a1 a2 a3)) : ∀ (M : MM) (a0 : Nat) (a1 : Int32) (a2 : Int32) (a3 : Int32), X Lv i2_findMostSteps 99 [(0, vr a0), (1, vi a1), (2, vi a2), (3, vi a3)] [] M (f2_findMostSteps_b99 K36 M a0 a1 a2 a3) := by
  obtain ⟨d99, d102, -⟩ := dd2_findMostSteps_b99
  intro M a0 a1 a2 a3
  unfold f2_findMostSteps_b99
  refine X_inc (lv' := [(3, vi (a3 + (1 : Int32))), (0, vr a0), (1, vi a1), (2, vi a2)]) 3 d99 k_i_1 rfl (by decide) rfl ?_
  refine X_goto (t := 36) d102 rfl ?_
  refine X_sub [1, 2, 3, 0] rfl ?_
  exact hK36 M a0 a1 a2 (a3 + (1 : Int32))

theorem dd2_findMostSteps_b82 : AllD (ib i2_findMostSteps) [(82, .istore 4, 2), (84, .iload 4, 2), (86, .ifCond .eq 13, 3), (89, .aload_n 0, 1), (90, .iload_n 3, 1), (91, .invokevirtual 142, 3), (94, .ifCond .eq 5, 3), (97, .iconst 1, 1), (98, .istore_n 1, 1)] := allD_of (by decide +kernel)
def f2_findMostSteps_b82 (K36 : MM → Nat → Int32 → Int32 → Int32 → Option MM) (M : MM) (a0 : Nat) (a1 : Int32) (a2 : Int32) (a3 : Int32) (s0 : Int32) : Option MM :=
  if s0 = 0 then
    (f2_findMostSteps_b99 K36) M a0 a1 a2 a3
  else
    aO M a0 2 <|
    cI (f2_lengthensBy M a0 a3) fun r91 M91 =>
    if r91 = 0 then
      (f2_findMostSteps_b99 K36) M91 a0 a1 a2 a3
    else
      (f2_findMostSteps_b99 K36) M91 a0 (1 : Int32) a2 a3
set_option maxRecDepth 4000 in
theorem T2_findMostSteps_b82 {K36 : MM → Nat → Int32 → Int32 → Int32 → Option MM} (hK36 : ∀ (M : MM) (a0 : Nat) (a1 : Int32) (a2 : Int32) (a3 : Int32), X Lv i2_findMostSteps 36 [(0, vr a0), (1, vi a1), (2, vi a2), (3, vi a3)] [] M (K36 M a0 a1 a2 a3)) : ∀ (M : MM) (a0 : Nat) (a1 : Int32) (a2 : Int32) (a3 : Int32) (s0 : Int32), X Lv i2_findMostSteps 82 [(0, vr a0), (1, vi a1), (2, vi a2), (3, vi a3)] [vi s0] M (f2_findMostSteps_b82 K36 M a0 a1 a2 a3 s0) := by
  obtain ⟨d82, d84, d86, d89, d90, d91, d94, d97, d98, -⟩ := dd2_findMostSteps_b82
  intro M a0 a1 a2 a3 s0
  unfold f2_findMostSteps_b82
  refine X_istore (lv' := [(4, vi s0), (0, vr a0), (1, vi a1), (2, vi a2), (3, vi a3)]) d82 (by decide) rfl ?_
  refine X_iload 0 d84 rfl ?_
  refine X_if_eq (t := 99) d86 rfl (fun h86 => ?_) (fun h86 => ?_)
  · refine X_sub [1, 2, 3, 4] rfl ?_
    exact (T2_findMostSteps_b99 hK36) M a0 a1 a2 a3
  · refine X_aloadn 1 d89 rfl ?_
    refine X_iloadn 4 d90 rfl ?_
    refine X_cVi (as := [vi a3]) d91 cv_x2_142 ⟨by decide, by decide⟩ rfl (Nat.le_of_ble_eq_true rfl) (T2_lengthensBy M a0 a3) (fun r91 M91 _ => ?_)
    refine X_if_eq (t := 99) d94 rfl (fun h94 => ?_) (fun h94 => ?_)
    · refine X_sub [1, 2, 3, 4] rfl ?_
      exact (T2_findMostSteps_b99 hK36) M91 a0 a1 a2 a3
    · refine X_iconst k_i_1 d97 ?_
      refine X_istoren (lv' := [(1, vi (1 : Int32)), (4, vi s0), (0, vr a0), (2, vi a2), (3, vi a3)]) d98 (by decide) rfl ?_
      refine X_sub [2, 0, 3, 4] rfl ?_
      exact (T2_findMostSteps_b99 hK36) M91 a0 (1 : Int32) a2 a3

theorem dd2_findMostSteps_b36 : AllD (ib i2_findMostSteps) [(36, .iload_n 3, 1), (37, .aload_n 0, 1), (38, .getfield 43, 3), (41, .getfield 79, 3), (44, .if_icmp .ge 61, 3), (47, .aload_n 0, 1), (48, .getfield 43, 3), (51, .iload_n 3, 1), (52, .aload_n 0, 1), (53, .getfield 39, 3), (56, .invokevirtual 82, 3), (59, .ifCond .eq 22, 3), (62, .aload_n 0, 1), (63, .getfield 20, 3), (66, .aload_n 0, 1), (67, .iload_n 3, 1), (68, .invokevirtual 104, 3), (71, .invokevirtual 72, 3), (74, .ifCond .ne 7, 3), (77, .iconst 1, 1), (78, .goto 4, 3), (105, .iinc 2 1, 3), (108, .goto (-86), 3)] := allD_of (by decide +kernel)
def f2_findMostSteps_b36_body (K22 : MM → Nat → Int32 → Int32 → Option MM) (rc : MM → Nat → Int32 → Int32 → Int32 → Option MM) (M : MM) (a0 : Nat) (a1 : Int32) (a2 : Int32) (a3 : Int32) : Option MM :=
  aO M a0 2 <|
  aO M (mR M a0 7) 7 <|
  if (mI M (mR M a0 7) 6) ≤ a3 then
    K22 M a0 a1 (a2 + (1 : Int32))
  else
    aO M a0 2 <|
    aO M a0 2 <|
    aO M (mR M a0 7) 7 <|
    cI (f7_isIn M (mR M a0 7) a3 (mI M a0 8)) fun r56 M56 =>
    if r56 = 0 then
      (f2_findMostSteps_b81 (f2_findMostSteps_b82 rc)) M56 a0 a1 a2 a3
    else
      aO M56 a0 2 <|
      aO M56 a0 2 <|
      cI (f2_headOfRule M56 a0 a3) fun r68 M68 =>
      aO M68 (mR M56 a0 1) 3 <|
      cI (f3_get M68 (mR M56 a0 1) r68) fun r71 M71 =>
      if r71 = 0 then
        (f2_findMostSteps_b82 rc) M71 a0 a1 a2 a3 (1 : Int32)
      else
        (f2_findMostSteps_b81 (f2_findMostSteps_b82 rc)) M71 a0 a1 a2 a3
def f2_findMostSteps_b36 (K22 : MM → Nat → Int32 → Int32 → Option MM) : MM → Nat → Int32 → Int32 → Int32 → Option MM := LP5 (f2_findMostSteps_b36_body K22) FU
set_option maxRecDepth 4000 in
theorem T2_findMostSteps_b36 {K22 : MM → Nat → Int32 → Int32 → Option MM} (hK22 : ∀ (M : MM) (a0 : Nat) (a1 : Int32) (a2 : Int32), X Lv i2_findMostSteps 22 [(0, vr a0), (1, vi a1), (2, vi a2)] [] M (K22 M a0 a1 a2)) : ∀ (M : MM) (a0 : Nat) (a1 : Int32) (a2 : Int32) (a3 : Int32), X Lv i2_findMostSteps 36 [(0, vr a0), (1, vi a1), (2, vi a2), (3, vi a3)] [] M (f2_findMostSteps_b36 K22 M a0 a1 a2 a3) := by
  obtain ⟨d36, d37, d38, d41, d44, d47, d48, d51, d52, d53, d56, d59, d62, d63, d66, d67, d68, d71, d74, d77, d78, d105, d108, -⟩ := dd2_findMostSteps_b36
  refine LP5_i (P := fun M a0 a1 a2 a3 o => X Lv i2_findMostSteps 36 [(0, vr a0), (1, vi a1), (2, vi a2), (3, vi a3)] [] M o) (fun _ _ _ _ _ => X_none) (fun rc ih M a0 a1 a2 a3 => ?_) FU
  unfold f2_findMostSteps_b36_body
  refine X_iloadn 3 d36 rfl ?_
  refine X_aloadn 0 d37 rfl ?_
  refine X_getR d38 fg_x2_43 ?_
  refine X_getI d41 fg_x2_79 ?_
  refine X_icmp_ge (t := 105) d44 rfl (fun h44 => ?_) (fun h44 => ?_)
  · refine X_inc (lv' := [(2, vi (a2 + (1 : Int32))), (0, vr a0), (1, vi a1), (3, vi a3)]) 2 d105 k_i_1 rfl (by decide) rfl ?_
    refine X_goto (t := 22) d108 rfl ?_
    refine X_sub [1, 2, 0] rfl ?_
    exact hK22 M a0 a1 (a2 + (1 : Int32))
  · refine X_aloadn 0 d47 rfl ?_
    refine X_getR d48 fg_x2_43 ?_
    refine X_iloadn 3 d51 rfl ?_
    refine X_aloadn 0 d52 rfl ?_
    refine X_getI d53 fg_x2_39 ?_
    refine X_cVi (as := [vi a3, vi (mI M a0 8)]) d56 cv_x2_82 ⟨by decide, by decide⟩ rfl (Nat.le_of_ble_eq_true rfl) (T7_isIn M (mR M a0 7) a3 (mI M a0 8)) (fun r56 M56 _ => ?_)
    refine X_if_eq (t := 81) d59 rfl (fun h59 => ?_) (fun h59 => ?_)
    · exact (T2_findMostSteps_b81 (T2_findMostSteps_b82 ih)) M56 a0 a1 a2 a3
    · refine X_aloadn 0 d62 rfl ?_
      refine X_getR d63 fg_x2_20 ?_
      refine X_aloadn 0 d66 rfl ?_
      refine X_iloadn 3 d67 rfl ?_
      refine X_cVi (as := [vi a3]) d68 cv_x2_104 ⟨by decide, by decide⟩ rfl (Nat.le_of_ble_eq_true rfl) (T2_headOfRule M56 a0 a3) (fun r68 M68 _ => ?_)
      refine X_cVi (as := [vi r68]) d71 cv_x2_72 ⟨by decide, by decide⟩ rfl (Nat.le_of_ble_eq_true rfl) (T3_get M68 (mR M56 a0 1) r68) (fun r71 M71 _ => ?_)
      refine X_if_ne (t := 81) d74 rfl (fun h74 => ?_) (fun h74 => ?_)
      · refine X_iconst k_i_1 d77 ?_
        refine X_goto (t := 82) d78 rfl ?_
        exact (T2_findMostSteps_b82 ih) M71 a0 a1 a2 a3 (1 : Int32)
      · exact (T2_findMostSteps_b81 (T2_findMostSteps_b82 ih)) M71 a0 a1 a2 a3

theorem dd2_findMostSteps_b22 : AllD (ib i2_findMostSteps) [(22, .iload_n 1, 1), (23, .ifCond .eq 88, 3), (26, .iload_n 2, 1), (27, .bipush 30, 2), (29, .if_icmp .gt 82, 3), (32, .iconst 0, 1), (33, .istore_n 1, 1), (34, .iconst 0, 1), (35, .istore_n 3, 1), (111, .return_, 1)] := allD_of (by decide +kernel)
def f2_findMostSteps_b22_body (rc : MM → Nat → Int32 → Int32 → Option MM) (M : MM) (a0 : Nat) (a1 : Int32) (a2 : Int32) : Option MM :=
  if a1 = 0 then
    some M
  else
    if (30 : Int32) < a2 then
      some M
    else
      (f2_findMostSteps_b36 rc) M a0 (0 : Int32) a2 (0 : Int32)
def f2_findMostSteps_b22 : MM → Nat → Int32 → Int32 → Option MM := LP4 (f2_findMostSteps_b22_body) FU
set_option maxRecDepth 4000 in
theorem T2_findMostSteps_b22 : ∀ (M : MM) (a0 : Nat) (a1 : Int32) (a2 : Int32), X Lv i2_findMostSteps 22 [(0, vr a0), (1, vi a1), (2, vi a2)] [] M (f2_findMostSteps_b22 M a0 a1 a2) := by
  obtain ⟨d22, d23, d26, d27, d29, d32, d33, d34, d35, d111, -⟩ := dd2_findMostSteps_b22
  refine LP4_i (P := fun M a0 a1 a2 o => X Lv i2_findMostSteps 22 [(0, vr a0), (1, vi a1), (2, vi a2)] [] M o) (fun _ _ _ _ => X_none) (fun rc ih M a0 a1 a2 => ?_) FU
  unfold f2_findMostSteps_b22_body
  refine X_iloadn 1 d22 rfl ?_
  refine X_if_eq (t := 111) d23 rfl (fun h23 => ?_) (fun h23 => ?_)
  · exact X_vreturn d111 rfl rfl
  · refine X_iloadn 2 d26 rfl ?_
    refine X_bipush k_b_30 d27 ?_
    refine X_icmp_gt (t := 111) d29 rfl (fun h29 => ?_) (fun h29 => ?_)
    · exact X_vreturn d111 rfl rfl
    · refine X_iconst k_i_0 d32 ?_
      refine X_istoren (lv' := [(1, vi (0 : Int32)), (0, vr a0), (2, vi a2)]) d33 (by decide) rfl ?_
      refine X_iconst k_i_0 d34 ?_
      refine X_istoren (lv' := [(3, vi (0 : Int32)), (1, vi (0 : Int32)), (0, vr a0), (2, vi a2)]) d35 (by decide) rfl ?_
      refine X_sub [2, 1, 3, 0] rfl ?_
      exact (T2_findMostSteps_b36 ih) M a0 (0 : Int32) a2 (0 : Int32)

theorem dd2_findMostSteps : AllD (ib i2_findMostSteps) [(0, .aload_n 0, 1), (1, .getfield 26, 3), (4, .lconst 0, 1), (5, .invokevirtual 137, 3), (8, .aload_n 0, 1), (9, .getfield 30, 3), (12, .ldc2_w 140, 3), (15, .invokevirtual 137, 3), (18, .iconst 1, 1), (19, .istore_n 1, 1), (20, .iconst 0, 1), (21, .istore_n 2, 1)] := allD_of (by decide +kernel)
def f2_findMostSteps (M : MM) (a0 : Nat) : Option MM :=
  aO M a0 2 <|
  aO M (mR M a0 2) 4 <|
  cV (f4_fill M (mR M a0 2) (0 : Int64)) fun M5 =>
  aO M5 a0 2 <|
  aO M5 (mR M5 a0 3) 4 <|
  cV (f4_fill M5 (mR M5 a0 3) (-1 : Int64)) fun M15 =>
  f2_findMostSteps_b22 M15 a0 (1 : Int32) (0 : Int32)
set_option maxRecDepth 4000 in
theorem T2_findMostSteps (M : MM) (a0 : Nat) : ∀ q, f2_findMostSteps M a0 = some q → Run i2_findMostSteps [vr a0] M (Lv q) := by
  obtain ⟨d0, d1, d4, d5, d8, d9, d12, d15, d18, d19, d20, d21, -⟩ := dd2_findMostSteps
  refine Run_of_X (by decide) (Nat.le_of_ble_eq_true rfl) ?_
  show X Lv i2_findMostSteps 0 [(0, vr a0)] [] M _
  unfold f2_findMostSteps
  refine X_aloadn 0 d0 rfl ?_
  refine X_getR d1 fg_x2_26 ?_
  refine X_lconst k_l_0 d4 ?_
  refine X_cVv (as := [vl (0 : Int64)]) d5 cv_x2_137 ⟨by decide, by decide⟩ rfl (Nat.le_of_ble_eq_true rfl) (T4_fill M (mR M a0 2) (0 : Int64)) (fun M5 _ => ?_)
  refine X_aloadn 0 d8 rfl ?_
  refine X_getR d9 fg_x2_30 ?_
  refine X_ldc2 kc_x2_140 d12 ?_
  refine X_cVv (as := [vl (-1 : Int64)]) d15 cv_x2_137 ⟨by decide, by decide⟩ rfl (Nat.le_of_ble_eq_true rfl) (T4_fill M5 (mR M5 a0 3) (-1 : Int64)) (fun M15 _ => ?_)
  refine X_iconst k_i_1 d18 ?_
  refine X_istoren (lv' := [(1, vi (1 : Int32)), (0, vr a0)]) d19 (by decide) rfl ?_
  refine X_iconst k_i_0 d20 ?_
  refine X_istoren (lv' := [(2, vi (0 : Int32)), (1, vi (1 : Int32)), (0, vr a0)]) d21 (by decide) rfl ?_
  refine X_sub [2, 1, 0] rfl ?_
  exact T2_findMostSteps_b22 M15 a0 (1 : Int32) (0 : Int32)

theorem dd2_raisesBy_b49 : AllD (ib i2_raisesBy) [(49, .istore 5, 2), (51, .iload_n 2, 1), (52, .aload_n 0, 1), (53, .getfield 16, 3), (56, .iload 4, 2), (58, .invokevirtual 72, 3), (61, .iload 5, 2), (63, .iadd, 1), (64, .invokestatic 96, 3), (67, .istore_n 2, 1)] := allD_of (by decide +kernel)
def f2_raisesBy_b49 (K68 : MM → Nat → Int32 → Int32 → Int32 → Option (Int32 × MM)) (M : MM) (a0 : Nat) (a1 : Int32) (a2 : Int32) (a3 : Int32) (a4 : Int32) (s0 : Int32) : Option (Int32 × MM) :=
  aO M a0 2 <|
  aO M (mR M a0 0) 3 <|
  cI (f3_get M (mR M a0 0) a4) fun r58 M58 =>
  bW (mxI a2 (r58 + s0)) fun v67 =>
  K68 M58 a0 a1 v67 a3
set_option maxRecDepth 4000 in
theorem T2_raisesBy_b49 {K68 : MM → Nat → Int32 → Int32 → Int32 → Option (Int32 × MM)} (hK68 : ∀ (M : MM) (a0 : Nat) (a1 : Int32) (a2 : Int32) (a3 : Int32), X Li i2_raisesBy 68 [(0, vr a0), (1, vi a1), (2, vi a2), (3, vi a3)] [] M (K68 M a0 a1 a2 a3)) : ∀ (M : MM) (a0 : Nat) (a1 : Int32) (a2 : Int32) (a3 : Int32) (a4 : Int32) (s0 : Int32), X Li i2_raisesBy 49 [(0, vr a0), (1, vi a1), (2, vi a2), (3, vi a3), (4, vi a4)] [vi s0] M (f2_raisesBy_b49 K68 M a0 a1 a2 a3 a4 s0) := by
  obtain ⟨d49, d51, d52, d53, d56, d58, d61, d63, d64, d67, -⟩ := dd2_raisesBy_b49
  intro M a0 a1 a2 a3 a4 s0
  unfold f2_raisesBy_b49
  refine X_istore (lv' := [(5, vi s0), (0, vr a0), (1, vi a1), (2, vi a2), (3, vi a3), (4, vi a4)]) d49 (by decide) rfl ?_
  refine X_iloadn 3 d51 rfl ?_
  refine X_aloadn 1 d52 rfl ?_
  refine X_getR d53 fg_x2_16 ?_
  refine X_iload 5 d56 rfl ?_
  refine X_cVi (as := [vi a4]) d58 cv_x2_72 ⟨by decide, by decide⟩ rfl (Nat.le_of_ble_eq_true rfl) (T3_get M (mR M a0 0) a4) (fun r58 M58 _ => ?_)
  refine X_iload 0 d61 rfl ?_
  refine X_iadd d63 ?_
  refine X_maxI d64 mw_x2_96 ⟨by decide, by decide⟩ (Nat.le_of_ble_eq_true rfl) ?_
  refine X_bWi fun v67 _ => ?_
  refine X_istoren (lv' := [(2, vi v67), (5, vi s0), (0, vr a0), (1, vi a1), (3, vi a3), (4, vi a4)]) d67 (by decide) rfl ?_
  refine X_sub [2, 3, 0, 4] rfl ?_
  exact hK68 M58 a0 a1 v67 a3

theorem dd2_raisesBy_b68 : AllD (ib i2_raisesBy) [(68, .iinc 3 1, 3), (71, .goto (-67), 3)] := allD_of (by decide +kernel)
def f2_raisesBy_b68 (K4 : MM → Nat → Int32 → Int32 → Int32 → Option (Int32 × MM)) (M : MM) (a0 : Nat) (a1 : Int32) (a2 : Int32) (a3 : Int32) : Option (Int32 × MM) :=
  K4 M a0 a1 a2 (a3 + (1 : Int32))
set_option maxRecDepth 4000 in
theorem T2_raisesBy_b68 {K4 : MM → Nat → Int32 → Int32 → Int32 → Option (Int32 × MM)} (hK4 : ∀ (M : MM) (a0 : Nat) (a1 : Int32) (a2 : Int32) (a3 : Int32), X Li i2_raisesBy 4 [(0, vr a0), (1, vi a1), (2, vi a2), (3, vi a3)] [] M (K4 M a0 a1 a2 a3)) : ∀ (M : MM) (a0 : Nat) (a1 : Int32) (a2 : Int32) (a3 : Int32), X Li i2_raisesBy 68 [(0, vr a0), (1, vi a1), (2, vi a2), (3, vi a3)] [] M (f2_raisesBy_b68 K4 M a0 a1 a2 a3) := by
  obtain ⟨d68, d71, -⟩ := dd2_raisesBy_b68
  intro M a0 a1 a2 a3
  unfold f2_raisesBy_b68
  refine X_inc (lv' := [(3, vi (a3 + (1 : Int32))), (0, vr a0), (1, vi a1), (2, vi a2)]) 3 d68 k_i_1 rfl (by decide) rfl ?_
  refine X_goto (t := 4) d71 rfl ?_
  refine X_sub [1, 2, 3, 0] rfl ?_
  exact hK4 M a0 a1 a2 (a3 + (1 : Int32))

theorem dd2_raisesBy_b4 : AllD (ib i2_raisesBy) [(4, .iload_n 3, 1), (5, .aload_n 0, 1), (6, .getfield 43, 3), (9, .getfield 90, 3), (12, .if_icmp .ge 62, 3), (15, .aload_n 0, 1), (16, .iload_n 1, 1), (17, .iload_n 3, 1), (18, .invokevirtual 93, 3), (21, .istore 4, 2), (23, .iload 4, 2), (25, .iconst (-1), 1), (26, .if_icmp .eq 42, 3), (29, .iload_n 3, 1), (30, .iconst (-1), 1), (31, .if_icmp .ne 17, 3), (34, .aload_n 0, 1), (35, .getfield 43, 3), (38, .iload_n 1, 1), (39, .iconst 3, 1), (40, .invokevirtual 51, 3), (43, .iconst 1, 1), (44, .isub, 1), (45, .goto 4, 3), (48, .iconst 0, 1), (74, .iload_n 2, 1), (75, .bipush 31, 2), (77, .invokestatic 101, 3), (80, .istore_n 2, 1), (81, .iload_n 2, 1), (82, .aload_n 0, 1), (83, .getfield 16, 3), (86, .aload_n 0, 1), (87, .iload_n 1, 1), (88, .invokevirtual 104, 3), (91, .invokevirtual 72, 3), (94, .if_icmp .gt 5, 3), (97, .iconst 0, 1), (98, .ireturn, 1), (99, .aload_n 0, 1), (100, .getfield 16, 3), (103, .aload_n 0, 1), (104, .iload_n 1, 1), (105, .invokevirtual 104, 3), (108, .iload_n 2, 1), (109, .invokevirtual 107, 3), (112, .iconst 1, 1), (113, .ireturn, 1)] := allD_of (by decide +kernel)
def f2_raisesBy_b4_body (rc : MM → Nat → Int32 → Int32 → Int32 → Option (Int32 × MM)) (M : MM) (a0 : Nat) (a1 : Int32) (a2 : Int32) (a3 : Int32) : Option (Int32 × MM) :=
  aO M a0 2 <|
  aO M (mR M a0 7) 7 <|
  if (mI M (mR M a0 7) 4) ≤ a3 then
    bW (mnI a2 (31 : Int32)) fun v80 =>
    aO M a0 2 <|
    aO M a0 2 <|
    cI (f2_headOfRule M a0 a1) fun r88 M88 =>
    aO M88 (mR M a0 0) 3 <|
    cI (f3_get M88 (mR M a0 0) r88) fun r91 M91 =>
    if r91 < v80 then
      aO M91 a0 2 <|
      aO M91 a0 2 <|
      cI (f2_headOfRule M91 a0 a1) fun r105 M105 =>
      aO M105 (mR M91 a0 0) 3 <|
      cV (f3_set M105 (mR M91 a0 0) r105 v80) fun M109 =>
      some ((1 : Int32), M109)
    else
      some ((0 : Int32), M91)
  else
    aO M a0 2 <|
    cI (f2_headBehind M a0 a1 a3) fun r18 M18 =>
    if r18 = (-1 : Int32) then
      (f2_raisesBy_b68 rc) M18 a0 a1 a2 a3
    else
      if a3 = (-1 : Int32) then
        aO M18 a0 2 <|
        aO M18 (mR M18 a0 7) 7 <|
        cI (f7_ofRule M18 (mR M18 a0 7) a1 (3 : Int32)) fun r40 M40 =>
        (f2_raisesBy_b49 (f2_raisesBy_b68 rc)) M40 a0 a1 a2 a3 r18 (r40 - (1 : Int32))
      else
        (f2_raisesBy_b49 (f2_raisesBy_b68 rc)) M18 a0 a1 a2 a3 r18 (0 : Int32)
def f2_raisesBy_b4 : MM → Nat → Int32 → Int32 → Int32 → Option (Int32 × MM) := LP5 (f2_raisesBy_b4_body) FU
set_option maxRecDepth 4000 in
theorem T2_raisesBy_b4 : ∀ (M : MM) (a0 : Nat) (a1 : Int32) (a2 : Int32) (a3 : Int32), X Li i2_raisesBy 4 [(0, vr a0), (1, vi a1), (2, vi a2), (3, vi a3)] [] M (f2_raisesBy_b4 M a0 a1 a2 a3) := by
  obtain ⟨d4, d5, d6, d9, d12, d15, d16, d17, d18, d21, d23, d25, d26, d29, d30, d31, d34, d35, d38, d39, d40, d43, d44, d45, d48, d74, d75, d77, d80, d81, d82, d83, d86, d87, d88, d91, d94, d97, d98, d99, d100, d103, d104, d105, d108, d109, d112, d113, -⟩ := dd2_raisesBy_b4
  refine LP5_i (P := fun M a0 a1 a2 a3 o => X Li i2_raisesBy 4 [(0, vr a0), (1, vi a1), (2, vi a2), (3, vi a3)] [] M o) (fun _ _ _ _ _ => X_none) (fun rc ih M a0 a1 a2 a3 => ?_) FU
  unfold f2_raisesBy_b4_body
  refine X_iloadn 3 d4 rfl ?_
  refine X_aloadn 0 d5 rfl ?_
  refine X_getR d6 fg_x2_43 ?_
  refine X_getI d9 fg_x2_90 ?_
  refine X_icmp_ge (t := 74) d12 rfl (fun h12 => ?_) (fun h12 => ?_)
  · refine X_iloadn 2 d74 rfl ?_
    refine X_bipush k_b_31 d75 ?_
    refine X_minI d77 mw_x2_101 ⟨by decide, by decide⟩ (Nat.le_of_ble_eq_true rfl) ?_
    refine X_bWi fun v80 _ => ?_
    refine X_istoren (lv' := [(2, vi v80), (0, vr a0), (1, vi a1), (3, vi a3)]) d80 (by decide) rfl ?_
    refine X_iloadn 0 d81 rfl ?_
    refine X_aloadn 1 d82 rfl ?_
    refine X_getR d83 fg_x2_16 ?_
    refine X_aloadn 1 d86 rfl ?_
    refine X_iloadn 2 d87 rfl ?_
    refine X_cVi (as := [vi a1]) d88 cv_x2_104 ⟨by decide, by decide⟩ rfl (Nat.le_of_ble_eq_true rfl) (T2_headOfRule M a0 a1) (fun r88 M88 _ => ?_)
    refine X_cVi (as := [vi r88]) d91 cv_x2_72 ⟨by decide, by decide⟩ rfl (Nat.le_of_ble_eq_true rfl) (T3_get M88 (mR M a0 0) r88) (fun r91 M91 _ => ?_)
    refine X_icmp_gt (t := 99) d94 rfl (fun h94 => ?_) (fun h94 => ?_)
    · refine X_aloadn 1 d99 rfl ?_
      refine X_getR d100 fg_x2_16 ?_
      refine X_aloadn 1 d103 rfl ?_
      refine X_iloadn 2 d104 rfl ?_
      refine X_cVi (as := [vi a1]) d105 cv_x2_104 ⟨by decide, by decide⟩ rfl (Nat.le_of_ble_eq_true rfl) (T2_headOfRule M91 a0 a1) (fun r105 M105 _ => ?_)
      refine X_iloadn 0 d108 rfl ?_
      refine X_cVv (as := [vi r105, vi v80]) d109 cv_x2_107 ⟨by decide, by decide⟩ rfl (Nat.le_of_ble_eq_true rfl) (T3_set M105 (mR M91 a0 0) r105 v80) (fun M109 _ => ?_)
      refine X_iconst k_i_1 d112 ?_
      exact X_zreturnc d113 rfl (by decide) rfl
    · refine X_iconst k_i_0 d97 ?_
      exact X_zreturnc d98 rfl (by decide) rfl
  · refine X_aloadn 0 d15 rfl ?_
    refine X_iloadn 1 d16 rfl ?_
    refine X_iloadn 3 d17 rfl ?_
    refine X_cVi (as := [vi a1, vi a3]) d18 cv_x2_93 ⟨by decide, by decide⟩ rfl (Nat.le_of_ble_eq_true rfl) (T2_headBehind M a0 a1 a3) (fun r18 M18 _ => ?_)
    refine X_istore (lv' := [(4, vi r18), (0, vr a0), (1, vi a1), (2, vi a2), (3, vi a3)]) d21 (by decide) rfl ?_
    refine X_iload 0 d23 rfl ?_
    refine X_iconst k_i_m1 d25 ?_
    refine X_icmp_eq (t := 68) d26 rfl (fun h26 => ?_) (fun h26 => ?_)
    · refine X_sub [1, 2, 3, 4] rfl ?_
      exact (T2_raisesBy_b68 ih) M18 a0 a1 a2 a3
    · refine X_iloadn 4 d29 rfl ?_
      refine X_iconst k_i_m1 d30 ?_
      refine X_icmp_ne (t := 48) d31 rfl (fun h31 => ?_) (fun h31 => ?_)
      · refine X_aloadn 1 d34 rfl ?_
        refine X_getR d35 fg_x2_43 ?_
        refine X_iloadn 2 d38 rfl ?_
        refine X_iconst k_i_3 d39 ?_
        refine X_cVi (as := [vi a1, vi (3 : Int32)]) d40 cv_x2_51 ⟨by decide, by decide⟩ rfl (Nat.le_of_ble_eq_true rfl) (T7_ofRule M18 (mR M18 a0 7) a1 (3 : Int32)) (fun r40 M40 _ => ?_)
        refine X_iconst k_i_1 d43 ?_
        refine X_isub d44 ?_
        refine X_goto (t := 49) d45 rfl ?_
        refine X_sub [1, 2, 3, 4, 0] rfl ?_
        exact (T2_raisesBy_b49 (T2_raisesBy_b68 ih)) M40 a0 a1 a2 a3 r18 (r40 - (1 : Int32))
      · refine X_iconst k_i_0 d48 ?_
        refine X_sub [1, 2, 3, 4, 0] rfl ?_
        exact (T2_raisesBy_b49 (T2_raisesBy_b68 ih)) M18 a0 a1 a2 a3 r18 (0 : Int32)

theorem dd2_raisesBy : AllD (ib i2_raisesBy) [(0, .iconst 1, 1), (1, .istore_n 2, 1), (2, .iconst (-1), 1), (3, .istore_n 3, 1)] := allD_of (by decide +kernel)
def f2_raisesBy (M : MM) (a0 : Nat) (a1 : Int32) : Option (Int32 × MM) :=
  f2_raisesBy_b4 M a0 a1 (1 : Int32) (-1 : Int32)
set_option maxRecDepth 4000 in
theorem T2_raisesBy (M : MM) (a0 : Nat) (a1 : Int32) : ∀ q, f2_raisesBy M a0 a1 = some q → Run i2_raisesBy [vr a0, vi a1] M (Li q) := by
  obtain ⟨d0, d1, d2, d3, -⟩ := dd2_raisesBy
  refine Run_of_X (by decide) (Nat.le_of_ble_eq_true rfl) ?_
  show X Li i2_raisesBy 0 [(0, vr a0), (1, vi a1)] [] M _
  unfold f2_raisesBy
  refine X_iconst k_i_1 d0 ?_
  refine X_istoren (lv' := [(2, vi (1 : Int32)), (0, vr a0), (1, vi a1)]) d1 (by decide) rfl ?_
  refine X_iconst k_i_m1 d2 ?_
  refine X_istoren (lv' := [(3, vi (-1 : Int32)), (2, vi (1 : Int32)), (0, vr a0), (1, vi a1)]) d3 (by decide) rfl ?_
  refine X_sub [2, 3, 1, 0] rfl ?_
  exact T2_raisesBy_b4 M a0 a1 (1 : Int32) (-1 : Int32)

theorem dd2_findRises_b63 : AllD (ib i2_findRises) [(63, .iinc 3 1, 3), (66, .goto (-39), 3)] := allD_of (by decide +kernel)
def f2_findRises_b63 (K27 : MM → Nat → Int32 → Int32 → Int32 → Option MM) (M : MM) (a0 : Nat) (a1 : Int32) (a2 : Int32) (a3 : Int32) : Option MM :=
  K27 M a0 a1 a2 (a3 + (1 : Int32))
set_option maxRecDepth 4000 in
theorem T2_findRises_b63 {K27 : MM → Nat → Int32 → Int32 → Int32 → Option MM} (hK27 : ∀ (M : MM) (a0 : Nat) (a1 : Int32) (a2 : Int32) (a3 : Int32), X Lv i2_findRises 27 [(0, vr a0), (1, vi a1), (2, vi a2), (3, vi a3)] [] M (K27 M a0 a1 a2 a3)) : ∀ (M : MM) (a0 : Nat) (a1 : Int32) (a2 : Int32) (a3 : Int32), X Lv i2_findRises 63 [(0, vr a0), (1, vi a1), (2, vi a2), (3, vi a3)] [] M (f2_findRises_b63 K27 M a0 a1 a2 a3) := by
  obtain ⟨d63, d66, -⟩ := dd2_findRises_b63
  intro M a0 a1 a2 a3
  unfold f2_findRises_b63
  refine X_inc (lv' := [(3, vi (a3 + (1 : Int32))), (0, vr a0), (1, vi a1), (2, vi a2)]) 3 d63 k_i_1 rfl (by decide) rfl ?_
  refine X_goto (t := 27) d66 rfl ?_
  refine X_sub [1, 2, 3, 0] rfl ?_
  exact hK27 M a0 a1 a2 (a3 + (1 : Int32))

theorem dd2_findRises_b27 : AllD (ib i2_findRises) [(27, .iload_n 3, 1), (28, .aload_n 0, 1), (29, .getfield 43, 3), (32, .getfield 79, 3), (35, .if_icmp .ge 34, 3), (38, .aload_n 0, 1), (39, .getfield 43, 3), (42, .iload_n 3, 1), (43, .aload_n 0, 1), (44, .getfield 39, 3), (47, .invokevirtual 82, 3), (50, .ifCond .eq 13, 3), (53, .aload_n 0, 1), (54, .iload_n 3, 1), (55, .invokevirtual 86, 3), (58, .ifCond .eq 5, 3), (61, .iconst 1, 1), (62, .istore_n 1, 1), (69, .iinc 2 1, 3), (72, .goto (-60), 3)] := allD_of (by decide +kernel)
def f2_findRises_b27_body (K12 : MM → Nat → Int32 → Int32 → Option MM) (rc : MM → Nat → Int32 → Int32 → Int32 → Option MM) (M : MM) (a0 : Nat) (a1 : Int32) (a2 : Int32) (a3 : Int32) : Option MM :=
  aO M a0 2 <|
  aO M (mR M a0 7) 7 <|
  if (mI M (mR M a0 7) 6) ≤ a3 then
    K12 M a0 a1 (a2 + (1 : Int32))
  else
    aO M a0 2 <|
    aO M a0 2 <|
    aO M (mR M a0 7) 7 <|
    cI (f7_isIn M (mR M a0 7) a3 (mI M a0 8)) fun r47 M47 =>
    if r47 = 0 then
      (f2_findRises_b63 rc) M47 a0 a1 a2 a3
    else
      aO M47 a0 2 <|
      cI (f2_raisesBy M47 a0 a3) fun r55 M55 =>
      if r55 = 0 then
        (f2_findRises_b63 rc) M55 a0 a1 a2 a3
      else
        (f2_findRises_b63 rc) M55 a0 (1 : Int32) a2 a3
def f2_findRises_b27 (K12 : MM → Nat → Int32 → Int32 → Option MM) : MM → Nat → Int32 → Int32 → Int32 → Option MM := LP5 (f2_findRises_b27_body K12) FU
set_option maxRecDepth 4000 in
theorem T2_findRises_b27 {K12 : MM → Nat → Int32 → Int32 → Option MM} (hK12 : ∀ (M : MM) (a0 : Nat) (a1 : Int32) (a2 : Int32), X Lv i2_findRises 12 [(0, vr a0), (1, vi a1), (2, vi a2)] [] M (K12 M a0 a1 a2)) : ∀ (M : MM) (a0 : Nat) (a1 : Int32) (a2 : Int32) (a3 : Int32), X Lv i2_findRises 27 [(0, vr a0), (1, vi a1), (2, vi a2), (3, vi a3)] [] M (f2_findRises_b27 K12 M a0 a1 a2 a3) := by
  obtain ⟨d27, d28, d29, d32, d35, d38, d39, d42, d43, d44, d47, d50, d53, d54, d55, d58, d61, d62, d69, d72, -⟩ := dd2_findRises_b27
  refine LP5_i (P := fun M a0 a1 a2 a3 o => X Lv i2_findRises 27 [(0, vr a0), (1, vi a1), (2, vi a2), (3, vi a3)] [] M o) (fun _ _ _ _ _ => X_none) (fun rc ih M a0 a1 a2 a3 => ?_) FU
  unfold f2_findRises_b27_body
  refine X_iloadn 3 d27 rfl ?_
  refine X_aloadn 0 d28 rfl ?_
  refine X_getR d29 fg_x2_43 ?_
  refine X_getI d32 fg_x2_79 ?_
  refine X_icmp_ge (t := 69) d35 rfl (fun h35 => ?_) (fun h35 => ?_)
  · refine X_inc (lv' := [(2, vi (a2 + (1 : Int32))), (0, vr a0), (1, vi a1), (3, vi a3)]) 2 d69 k_i_1 rfl (by decide) rfl ?_
    refine X_goto (t := 12) d72 rfl ?_
    refine X_sub [1, 2, 0] rfl ?_
    exact hK12 M a0 a1 (a2 + (1 : Int32))
  · refine X_aloadn 0 d38 rfl ?_
    refine X_getR d39 fg_x2_43 ?_
    refine X_iloadn 3 d42 rfl ?_
    refine X_aloadn 0 d43 rfl ?_
    refine X_getI d44 fg_x2_39 ?_
    refine X_cVi (as := [vi a3, vi (mI M a0 8)]) d47 cv_x2_82 ⟨by decide, by decide⟩ rfl (Nat.le_of_ble_eq_true rfl) (T7_isIn M (mR M a0 7) a3 (mI M a0 8)) (fun r47 M47 _ => ?_)
    refine X_if_eq (t := 63) d50 rfl (fun h50 => ?_) (fun h50 => ?_)
    · exact (T2_findRises_b63 ih) M47 a0 a1 a2 a3
    · refine X_aloadn 0 d53 rfl ?_
      refine X_iloadn 3 d54 rfl ?_
      refine X_cVi (as := [vi a3]) d55 cv_x2_86 ⟨by decide, by decide⟩ rfl (Nat.le_of_ble_eq_true rfl) (T2_raisesBy M47 a0 a3) (fun r55 M55 _ => ?_)
      refine X_if_eq (t := 63) d58 rfl (fun h58 => ?_) (fun h58 => ?_)
      · exact (T2_findRises_b63 ih) M55 a0 a1 a2 a3
      · refine X_iconst k_i_1 d61 ?_
        refine X_istoren (lv' := [(1, vi (1 : Int32)), (0, vr a0), (2, vi a2), (3, vi a3)]) d62 (by decide) rfl ?_
        refine X_sub [1, 0, 2, 3] rfl ?_
        exact (T2_findRises_b63 ih) M55 a0 (1 : Int32) a2 a3

theorem dd2_findRises_b12 : AllD (ib i2_findRises) [(12, .iload_n 1, 1), (13, .ifCond .eq 62, 3), (16, .iload_n 2, 1), (17, .sipush 931, 3), (20, .if_icmp .ge 55, 3), (23, .iconst 0, 1), (24, .istore_n 1, 1), (25, .iconst 0, 1), (26, .istore_n 3, 1), (75, .return_, 1)] := allD_of (by decide +kernel)
def f2_findRises_b12_body (rc : MM → Nat → Int32 → Int32 → Option MM) (M : MM) (a0 : Nat) (a1 : Int32) (a2 : Int32) : Option MM :=
  if a1 = 0 then
    some M
  else
    if (931 : Int32) ≤ a2 then
      some M
    else
      (f2_findRises_b27 rc) M a0 (0 : Int32) a2 (0 : Int32)
def f2_findRises_b12 : MM → Nat → Int32 → Int32 → Option MM := LP4 (f2_findRises_b12_body) FU
set_option maxRecDepth 4000 in
theorem T2_findRises_b12 : ∀ (M : MM) (a0 : Nat) (a1 : Int32) (a2 : Int32), X Lv i2_findRises 12 [(0, vr a0), (1, vi a1), (2, vi a2)] [] M (f2_findRises_b12 M a0 a1 a2) := by
  obtain ⟨d12, d13, d16, d17, d20, d23, d24, d25, d26, d75, -⟩ := dd2_findRises_b12
  refine LP4_i (P := fun M a0 a1 a2 o => X Lv i2_findRises 12 [(0, vr a0), (1, vi a1), (2, vi a2)] [] M o) (fun _ _ _ _ => X_none) (fun rc ih M a0 a1 a2 => ?_) FU
  unfold f2_findRises_b12_body
  refine X_iloadn 1 d12 rfl ?_
  refine X_if_eq (t := 75) d13 rfl (fun h13 => ?_) (fun h13 => ?_)
  · exact X_vreturn d75 rfl rfl
  · refine X_iloadn 2 d16 rfl ?_
    refine X_sipush k_s_931 d17 ?_
    refine X_icmp_ge (t := 75) d20 rfl (fun h20 => ?_) (fun h20 => ?_)
    · exact X_vreturn d75 rfl rfl
    · refine X_iconst k_i_0 d23 ?_
      refine X_istoren (lv' := [(1, vi (0 : Int32)), (0, vr a0), (2, vi a2)]) d24 (by decide) rfl ?_
      refine X_iconst k_i_0 d25 ?_
      refine X_istoren (lv' := [(3, vi (0 : Int32)), (1, vi (0 : Int32)), (0, vr a0), (2, vi a2)]) d26 (by decide) rfl ?_
      refine X_sub [2, 1, 3, 0] rfl ?_
      exact (T2_findRises_b27 ih) M a0 (0 : Int32) a2 (0 : Int32)

theorem dd2_findRises : AllD (ib i2_findRises) [(0, .aload_n 0, 1), (1, .getfield 16, 3), (4, .iconst 1, 1), (5, .invokevirtual 76, 3), (8, .iconst 1, 1), (9, .istore_n 1, 1), (10, .iconst 0, 1), (11, .istore_n 2, 1)] := allD_of (by decide +kernel)
def f2_findRises (M : MM) (a0 : Nat) : Option MM :=
  aO M a0 2 <|
  aO M (mR M a0 0) 3 <|
  cV (f3_fill M (mR M a0 0) (1 : Int32)) fun M5 =>
  f2_findRises_b12 M5 a0 (1 : Int32) (0 : Int32)
set_option maxRecDepth 4000 in
theorem T2_findRises (M : MM) (a0 : Nat) : ∀ q, f2_findRises M a0 = some q → Run i2_findRises [vr a0] M (Lv q) := by
  obtain ⟨d0, d1, d4, d5, d8, d9, d10, d11, -⟩ := dd2_findRises
  refine Run_of_X (by decide) (Nat.le_of_ble_eq_true rfl) ?_
  show X Lv i2_findRises 0 [(0, vr a0)] [] M _
  unfold f2_findRises
  refine X_aloadn 0 d0 rfl ?_
  refine X_getR d1 fg_x2_16 ?_
  refine X_iconst k_i_1 d4 ?_
  refine X_cVv (as := [vi (1 : Int32)]) d5 cv_x2_76 ⟨by decide, by decide⟩ rfl (Nat.le_of_ble_eq_true rfl) (T3_fill M (mR M a0 0) (1 : Int32)) (fun M5 _ => ?_)
  refine X_iconst k_i_1 d8 ?_
  refine X_istoren (lv' := [(1, vi (1 : Int32)), (0, vr a0)]) d9 (by decide) rfl ?_
  refine X_iconst k_i_0 d10 ?_
  refine X_istoren (lv' := [(2, vi (0 : Int32)), (1, vi (1 : Int32)), (0, vr a0)]) d11 (by decide) rfl ?_
  refine X_sub [2, 1, 0] rfl ?_
  exact T2_findRises_b12 M5 a0 (1 : Int32) (0 : Int32)

theorem dd2_goBelow_b59 : AllD (ib i2_goBelow) [(59, .iinc 5 1, 3), (62, .goto (-59), 3)] := allD_of (by decide +kernel)
def f2_goBelow_b59 (K3 : MM → Nat → Int32 → Int32 → Int64 → Int32 → Option MM) (M : MM) (a0 : Nat) (a1 : Int32) (a2 : Int32) (a3 : Int64) (a5 : Int32) : Option MM :=
  K3 M a0 a1 a2 a3 (a5 + (1 : Int32))
set_option maxRecDepth 4000 in
theorem T2_goBelow_b59 {K3 : MM → Nat → Int32 → Int32 → Int64 → Int32 → Option MM} (hK3 : ∀ (M : MM) (a0 : Nat) (a1 : Int32) (a2 : Int32) (a3 : Int64) (a5 : Int32), X Lv i2_goBelow 3 [(0, vr a0), (1, vi a1), (2, vi a2), (3, vl a3), (5, vi a5)] [] M (K3 M a0 a1 a2 a3 a5)) : ∀ (M : MM) (a0 : Nat) (a1 : Int32) (a2 : Int32) (a3 : Int64) (a5 : Int32), X Lv i2_goBelow 59 [(0, vr a0), (1, vi a1), (2, vi a2), (3, vl a3), (5, vi a5)] [] M (f2_goBelow_b59 K3 M a0 a1 a2 a3 a5) := by
  obtain ⟨d59, d62, -⟩ := dd2_goBelow_b59
  intro M a0 a1 a2 a3 a5
  unfold f2_goBelow_b59
  refine X_inc (lv' := [(5, vi (a5 + (1 : Int32))), (0, vr a0), (1, vi a1), (2, vi a2), (3, vl a3)]) 4 d59 k_i_1 rfl (by decide) rfl ?_
  refine X_goto (t := 3) d62 rfl ?_
  refine X_sub [1, 2, 3, 4, 0] rfl ?_
  exact hK3 M a0 a1 a2 a3 (a5 + (1 : Int32))

theorem dd2_goBelow_b3 : AllD (ib i2_goBelow) [(3, .iload 5, 2), (5, .aload_n 0, 1), (6, .getfield 43, 3), (9, .getfield 90, 3), (12, .if_icmp .ge 53, 3), (15, .aload_n 0, 1), (16, .iload_n 1, 1), (17, .iload_n 2, 1), (18, .iload 5, 2), (20, .invokevirtual 164, 3), (23, .lstore 6, 2), (25, .lload 6, 2), (27, .lconst 0, 1), (28, .lcmp, 1), (29, .ifCond .lt 30, 3), (32, .aload_n 0, 1), (33, .getfield 36, 3), (36, .iload 5, 2), (38, .aload_n 0, 1), (39, .getfield 36, 3), (42, .iload 5, 2), (44, .invokevirtual 153, 3), (47, .lload_n 3, 1), (48, .lload 6, 2), (50, .invokestatic 149, 3), (53, .invokestatic 156, 3), (56, .invokevirtual 158, 3), (65, .return_, 1)] := allD_of (by decide +kernel)
def f2_goBelow_b3_body (rc : MM → Nat → Int32 → Int32 → Int64 → Int32 → Option MM) (M : MM) (a0 : Nat) (a1 : Int32) (a2 : Int32) (a3 : Int64) (a5 : Int32) : Option MM :=
  aO M a0 2 <|
  aO M (mR M a0 7) 7 <|
  if (mI M (mR M a0 7) 4) ≤ a5 then
    some M
  else
    aO M a0 2 <|
    cJ (f2_toPop M a0 a1 a2 a5) fun r20 M20 =>
    if r20 < (0 : Int64) then
      (f2_goBelow_b59 rc) M20 a0 a1 a2 a3 a5
    else
      aO M20 a0 2 <|
      aO M20 a0 2 <|
      aO M20 (mR M20 a0 5) 4 <|
      cJ (f4_get M20 (mR M20 a0 5) a5) fun r44 M44 =>
      cJ (f4_sum M44 a3 r20) fun r50 M50 =>
      aO M50 (mR M20 a0 5) 4 <|
      cV (f4_set M50 (mR M20 a0 5) a5 (mxL r44 r50)) fun M56 =>
      (f2_goBelow_b59 rc) M56 a0 a1 a2 a3 a5
def f2_goBelow_b3 : MM → Nat → Int32 → Int32 → Int64 → Int32 → Option MM := LP6 (f2_goBelow_b3_body) FU
set_option maxRecDepth 4000 in
theorem T2_goBelow_b3 : ∀ (M : MM) (a0 : Nat) (a1 : Int32) (a2 : Int32) (a3 : Int64) (a5 : Int32), X Lv i2_goBelow 3 [(0, vr a0), (1, vi a1), (2, vi a2), (3, vl a3), (5, vi a5)] [] M (f2_goBelow_b3 M a0 a1 a2 a3 a5) := by
  obtain ⟨d3, d5, d6, d9, d12, d15, d16, d17, d18, d20, d23, d25, d27, d28, d29, d32, d33, d36, d38, d39, d42, d44, d47, d48, d50, d53, d56, d65, -⟩ := dd2_goBelow_b3
  refine LP6_i (P := fun M a0 a1 a2 a3 a5 o => X Lv i2_goBelow 3 [(0, vr a0), (1, vi a1), (2, vi a2), (3, vl a3), (5, vi a5)] [] M o) (fun _ _ _ _ _ _ => X_none) (fun rc ih M a0 a1 a2 a3 a5 => ?_) FU
  unfold f2_goBelow_b3_body
  refine X_iload 4 d3 rfl ?_
  refine X_aloadn 0 d5 rfl ?_
  refine X_getR d6 fg_x2_43 ?_
  refine X_getI d9 fg_x2_90 ?_
  refine X_icmp_ge (t := 65) d12 rfl (fun h12 => ?_) (fun h12 => ?_)
  · exact X_vreturn d65 rfl rfl
  · refine X_aloadn 0 d15 rfl ?_
    refine X_iloadn 1 d16 rfl ?_
    refine X_iloadn 2 d17 rfl ?_
    refine X_iload 4 d18 rfl ?_
    refine X_cVl (as := [vi a1, vi a2, vi a5]) d20 cv_x2_164 ⟨by decide, by decide⟩ rfl (Nat.le_of_ble_eq_true rfl) (T2_toPop M a0 a1 a2 a5) (fun r20 M20 _ => ?_)
    refine X_lstore (lv' := [(6, vl r20), (0, vr a0), (1, vi a1), (2, vi a2), (3, vl a3), (5, vi a5)]) d23 (by decide) rfl ?_
    refine X_lload 0 d25 rfl ?_
    refine X_lconst k_l_0 d27 ?_
    refine X_lif_lt (t := 59) d28 d29 rfl (fun h28 => ?_) (fun h28 => ?_)
    · refine X_sub [1, 2, 3, 4, 5] rfl ?_
      exact (T2_goBelow_b59 ih) M20 a0 a1 a2 a3 a5
    · refine X_aloadn 1 d32 rfl ?_
      refine X_getR d33 fg_x2_36 ?_
      refine X_iload 5 d36 rfl ?_
      refine X_aloadn 1 d38 rfl ?_
      refine X_getR d39 fg_x2_36 ?_
      refine X_iload 5 d42 rfl ?_
      refine X_cVl (as := [vi a5]) d44 cv_x2_153 ⟨by decide, by decide⟩ rfl (Nat.le_of_ble_eq_true rfl) (T4_get M20 (mR M20 a0 5) a5) (fun r44 M44 _ => ?_)
      refine X_lloadn 4 d47 rfl ?_
      refine X_lload 0 d48 rfl ?_
      refine X_cSl (as := [vl a3, vl r20]) d50 cs_x2_149 ⟨by decide, by decide⟩ rfl (Nat.le_of_ble_eq_true rfl) (T4_sum M44 a3 r20) (fun r50 M50 _ => ?_)
      refine X_maxL d53 mw_x2_156 ⟨by decide, by decide⟩ (Nat.le_of_ble_eq_true rfl) ?_
      refine X_cVv (as := [vi a5, vl (mxL r44 r50)]) d56 cv_x2_158 ⟨by decide, by decide⟩ rfl (Nat.le_of_ble_eq_true rfl) (T4_set M50 (mR M20 a0 5) a5 (mxL r44 r50)) (fun M56 _ => ?_)
      refine X_sub [1, 2, 3, 4, 5] rfl ?_
      exact (T2_goBelow_b59 ih) M56 a0 a1 a2 a3 a5

theorem dd2_goBelow : AllD (ib i2_goBelow) [(0, .iconst 0, 1), (1, .istore 5, 2)] := allD_of (by decide +kernel)
def f2_goBelow (M : MM) (a0 : Nat) (a1 : Int32) (a2 : Int32) (a3 : Int64) : Option MM :=
  f2_goBelow_b3 M a0 a1 a2 a3 (0 : Int32)
set_option maxRecDepth 4000 in
theorem T2_goBelow (M : MM) (a0 : Nat) (a1 : Int32) (a2 : Int32) (a3 : Int64) : ∀ q, f2_goBelow M a0 a1 a2 a3 = some q → Run i2_goBelow [vr a0, vi a1, vi a2, vl a3] M (Lv q) := by
  obtain ⟨d0, d1, -⟩ := dd2_goBelow
  refine Run_of_X (by decide) (Nat.le_of_ble_eq_true rfl) ?_
  show X Lv i2_goBelow 0 [(0, vr a0), (1, vi a1), (2, vi a2), (3, vl a3)] [] M _
  unfold f2_goBelow
  refine X_iconst k_i_0 d0 ?_
  refine X_istore (lv' := [(5, vi (0 : Int32)), (0, vr a0), (1, vi a1), (2, vi a2), (3, vl a3)]) d1 (by decide) rfl ?_
  refine X_sub [1, 2, 3, 4, 0] rfl ?_
  exact T2_goBelow_b3 M a0 a1 a2 a3 (0 : Int32)

theorem dd2_riseOf : AllD (ib i2_riseOf) [(0, .aload_n 0, 1), (1, .getfield 16, 3), (4, .iload_n 1, 1), (5, .iload_n 2, 1), (6, .invokestatic 57, 3), (9, .invokevirtual 72, 3), (12, .istore_n 3, 1), (13, .iload_n 3, 1), (14, .bipush 31, 2), (16, .if_icmp .lt 7, 3), (19, .iconst (-1), 1), (20, .goto 4, 3), (23, .iload_n 3, 1), (24, .ireturn, 1)] := allD_of (by decide +kernel)
def f2_riseOf (M : MM) (a0 : Nat) (a1 : Int32) (a2 : Int32) : Option (Int32 × MM) :=
  aO M a0 2 <|
  cI (f2_headOf M a1 a2) fun r6 M6 =>
  aO M6 (mR M a0 0) 3 <|
  cI (f3_get M6 (mR M a0 0) r6) fun r9 M9 =>
  if r9 < (31 : Int32) then
    some (r9, M9)
  else
    some ((-1 : Int32), M9)
set_option maxRecDepth 4000 in
theorem T2_riseOf (M : MM) (a0 : Nat) (a1 : Int32) (a2 : Int32) : ∀ q, f2_riseOf M a0 a1 a2 = some q → Run i2_riseOf [vr a0, vi a1, vi a2] M (Li q) := by
  obtain ⟨d0, d1, d4, d5, d6, d9, d12, d13, d14, d16, d19, d20, d23, d24, -⟩ := dd2_riseOf
  refine Run_of_X (by decide) (Nat.le_of_ble_eq_true rfl) ?_
  show X Li i2_riseOf 0 [(0, vr a0), (1, vi a1), (2, vi a2)] [] M _
  unfold f2_riseOf
  refine X_aloadn 0 d0 rfl ?_
  refine X_getR d1 fg_x2_16 ?_
  refine X_iloadn 1 d4 rfl ?_
  refine X_iloadn 2 d5 rfl ?_
  refine X_cSi (as := [vi a1, vi a2]) d6 cs_x2_57 ⟨by decide, by decide⟩ rfl (Nat.le_of_ble_eq_true rfl) (T2_headOf M a1 a2) (fun r6 M6 _ => ?_)
  refine X_cVi (as := [vi r6]) d9 cv_x2_72 ⟨by decide, by decide⟩ rfl (Nat.le_of_ble_eq_true rfl) (T3_get M6 (mR M a0 0) r6) (fun r9 M9 _ => ?_)
  refine X_istoren (lv' := [(3, vi r9), (0, vr a0), (1, vi a1), (2, vi a2)]) d12 (by decide) rfl ?_
  refine X_iloadn 0 d13 rfl ?_
  refine X_bipush k_b_31 d14 ?_
  refine X_icmp_lt (t := 23) d16 rfl (fun h16 => ?_) (fun h16 => ?_)
  · refine X_iloadn 0 d23 rfl ?_
    exact X_ireturn d24 rfl rfl
  · refine X_iconst k_i_m1 d19 ?_
    refine X_goto (t := 24) d20 rfl ?_
    exact X_ireturn d24 rfl rfl

theorem dd2_reachedBelow_b61 : AllD (ib i2_reachedBelow) [(61, .iinc 5 1, 3), (64, .goto (-44), 3)] := allD_of (by decide +kernel)
def f2_reachedBelow_b61 (K20 : MM → Nat → Int32 → Int32 → Int32 → Int32 → Int32 → Option (Int32 × MM)) (M : MM) (a0 : Nat) (a1 : Int32) (a2 : Int32) (a3 : Int32) (a4 : Int32) (a5 : Int32) : Option (Int32 × MM) :=
  K20 M a0 a1 a2 a3 a4 (a5 + (1 : Int32))
set_option maxRecDepth 4000 in
theorem T2_reachedBelow_b61 {K20 : MM → Nat → Int32 → Int32 → Int32 → Int32 → Int32 → Option (Int32 × MM)} (hK20 : ∀ (M : MM) (a0 : Nat) (a1 : Int32) (a2 : Int32) (a3 : Int32) (a4 : Int32) (a5 : Int32), X Li i2_reachedBelow 20 [(0, vr a0), (1, vi a1), (2, vi a2), (3, vi a3), (4, vi a4), (5, vi a5)] [] M (K20 M a0 a1 a2 a3 a4 a5)) : ∀ (M : MM) (a0 : Nat) (a1 : Int32) (a2 : Int32) (a3 : Int32) (a4 : Int32) (a5 : Int32), X Li i2_reachedBelow 61 [(0, vr a0), (1, vi a1), (2, vi a2), (3, vi a3), (4, vi a4), (5, vi a5)] [] M (f2_reachedBelow_b61 K20 M a0 a1 a2 a3 a4 a5) := by
  obtain ⟨d61, d64, -⟩ := dd2_reachedBelow_b61
  intro M a0 a1 a2 a3 a4 a5
  unfold f2_reachedBelow_b61
  refine X_inc (lv' := [(5, vi (a5 + (1 : Int32))), (0, vr a0), (1, vi a1), (2, vi a2), (3, vi a3), (4, vi a4)]) 5 d61 k_i_1 rfl (by decide) rfl ?_
  refine X_goto (t := 20) d64 rfl ?_
  refine X_sub [1, 2, 3, 4, 5, 0] rfl ?_
  exact hK20 M a0 a1 a2 a3 a4 (a5 + (1 : Int32))

theorem dd2_reachedBelow_b67 : AllD (ib i2_reachedBelow) [(67, .iinc 4 1, 3), (70, .goto (-65), 3)] := allD_of (by decide +kernel)
def f2_reachedBelow_b67 (K5 : MM → Nat → Int32 → Int32 → Int32 → Int32 → Option (Int32 × MM)) (M : MM) (a0 : Nat) (a1 : Int32) (a2 : Int32) (a3 : Int32) (a4 : Int32) : Option (Int32 × MM) :=
  K5 M a0 a1 a2 a3 (a4 + (1 : Int32))
set_option maxRecDepth 4000 in
theorem T2_reachedBelow_b67 {K5 : MM → Nat → Int32 → Int32 → Int32 → Int32 → Option (Int32 × MM)} (hK5 : ∀ (M : MM) (a0 : Nat) (a1 : Int32) (a2 : Int32) (a3 : Int32) (a4 : Int32), X Li i2_reachedBelow 5 [(0, vr a0), (1, vi a1), (2, vi a2), (3, vi a3), (4, vi a4)] [] M (K5 M a0 a1 a2 a3 a4)) : ∀ (M : MM) (a0 : Nat) (a1 : Int32) (a2 : Int32) (a3 : Int32) (a4 : Int32), X Li i2_reachedBelow 67 [(0, vr a0), (1, vi a1), (2, vi a2), (3, vi a3), (4, vi a4)] [] M (f2_reachedBelow_b67 K5 M a0 a1 a2 a3 a4) := by
  obtain ⟨d67, d70, -⟩ := dd2_reachedBelow_b67
  intro M a0 a1 a2 a3 a4
  unfold f2_reachedBelow_b67
  refine X_inc (lv' := [(4, vi (a4 + (1 : Int32))), (0, vr a0), (1, vi a1), (2, vi a2), (3, vi a3)]) 4 d67 k_i_1 rfl (by decide) rfl ?_
  refine X_goto (t := 5) d70 rfl ?_
  refine X_sub [1, 2, 3, 4, 0] rfl ?_
  exact hK5 M a0 a1 a2 a3 (a4 + (1 : Int32))

theorem dd2_reachedBelow_b20 : AllD (ib i2_reachedBelow) [(20, .iload_n 1, 1), (21, .iload 4, 2), (23, .iushr, 1), (24, .iconst 1, 1), (25, .iand, 1), (26, .iconst 1, 1), (27, .if_icmp .ne 40, 3), (30, .iload 5, 2), (32, .aload_n 0, 1), (33, .getfield 43, 3), (36, .getfield 90, 3), (39, .if_icmp .ge 28, 3), (42, .aload_n 0, 1), (43, .iload 4, 2), (45, .iload_n 2, 1), (46, .iload 5, 2), (48, .invokevirtual 68, 3), (51, .ifCond .eq 10, 3), (54, .iload_n 3, 1), (55, .iconst 1, 1), (56, .iload 5, 2), (58, .ishl, 1), (59, .ior, 1), (60, .istore_n 3, 1)] := allD_of (by decide +kernel)
def f2_reachedBelow_b20_body (K5 : MM → Nat → Int32 → Int32 → Int32 → Int32 → Option (Int32 × MM)) (rc : MM → Nat → Int32 → Int32 → Int32 → Int32 → Int32 → Option (Int32 × MM)) (M : MM) (a0 : Nat) (a1 : Int32) (a2 : Int32) (a3 : Int32) (a4 : Int32) (a5 : Int32) : Option (Int32 × MM) :=
  if ((ushr a1 a4) &&& (1 : Int32)) = (1 : Int32) then
    aO M a0 2 <|
    aO M (mR M a0 7) 7 <|
    if (mI M (mR M a0 7) 4) ≤ a5 then
      (f2_reachedBelow_b67 K5) M a0 a1 a2 a3 a4
    else
      aO M a0 2 <|
      cI (f2_canPop M a0 a4 a2 a5) fun r48 M48 =>
      if r48 = 0 then
        (f2_reachedBelow_b61 rc) M48 a0 a1 a2 a3 a4 a5
      else
        bW (a3 ||| ((1 : Int32) <<< (a5 &&& 31))) fun v60 =>
        (f2_reachedBelow_b61 rc) M48 a0 a1 a2 v60 a4 a5
  else
    (f2_reachedBelow_b67 K5) M a0 a1 a2 a3 a4
def f2_reachedBelow_b20 (K5 : MM → Nat → Int32 → Int32 → Int32 → Int32 → Option (Int32 × MM)) : MM → Nat → Int32 → Int32 → Int32 → Int32 → Int32 → Option (Int32 × MM) := LP7 (f2_reachedBelow_b20_body K5) FU
set_option maxRecDepth 4000 in
theorem T2_reachedBelow_b20 {K5 : MM → Nat → Int32 → Int32 → Int32 → Int32 → Option (Int32 × MM)} (hK5 : ∀ (M : MM) (a0 : Nat) (a1 : Int32) (a2 : Int32) (a3 : Int32) (a4 : Int32), X Li i2_reachedBelow 5 [(0, vr a0), (1, vi a1), (2, vi a2), (3, vi a3), (4, vi a4)] [] M (K5 M a0 a1 a2 a3 a4)) : ∀ (M : MM) (a0 : Nat) (a1 : Int32) (a2 : Int32) (a3 : Int32) (a4 : Int32) (a5 : Int32), X Li i2_reachedBelow 20 [(0, vr a0), (1, vi a1), (2, vi a2), (3, vi a3), (4, vi a4), (5, vi a5)] [] M (f2_reachedBelow_b20 K5 M a0 a1 a2 a3 a4 a5) := by
  obtain ⟨d20, d21, d23, d24, d25, d26, d27, d30, d32, d33, d36, d39, d42, d43, d45, d46, d48, d51, d54, d55, d56, d58, d59, d60, -⟩ := dd2_reachedBelow_b20
  refine LP7_i (P := fun M a0 a1 a2 a3 a4 a5 o => X Li i2_reachedBelow 20 [(0, vr a0), (1, vi a1), (2, vi a2), (3, vi a3), (4, vi a4), (5, vi a5)] [] M o) (fun _ _ _ _ _ _ _ => X_none) (fun rc ih M a0 a1 a2 a3 a4 a5 => ?_) FU
  unfold f2_reachedBelow_b20_body
  refine X_iloadn 1 d20 rfl ?_
  refine X_iload 4 d21 rfl ?_
  refine X_iushr d23 ?_
  refine X_iconst k_i_1 d24 ?_
  refine X_iand d25 ?_
  refine X_iconst k_i_1 d26 ?_
  refine X_icmp_ne (t := 67) d27 rfl (fun h27 => ?_) (fun h27 => ?_)
  · refine X_iload 5 d30 rfl ?_
    refine X_aloadn 0 d32 rfl ?_
    refine X_getR d33 fg_x2_43 ?_
    refine X_getI d36 fg_x2_90 ?_
    refine X_icmp_ge (t := 67) d39 rfl (fun h39 => ?_) (fun h39 => ?_)
    · refine X_sub [0, 1, 2, 3, 4] rfl ?_
      exact (T2_reachedBelow_b67 hK5) M a0 a1 a2 a3 a4
    · refine X_aloadn 0 d42 rfl ?_
      refine X_iload 4 d43 rfl ?_
      refine X_iloadn 2 d45 rfl ?_
      refine X_iload 5 d46 rfl ?_
      refine X_cVi (as := [vi a4, vi a2, vi a5]) d48 cv_x2_68 ⟨by decide, by decide⟩ rfl (Nat.le_of_ble_eq_true rfl) (T2_canPop M a0 a4 a2 a5) (fun r48 M48 _ => ?_)
      refine X_if_eq (t := 61) d51 rfl (fun h51 => ?_) (fun h51 => ?_)
      · exact (T2_reachedBelow_b61 ih) M48 a0 a1 a2 a3 a4 a5
      · refine X_iloadn 3 d54 rfl ?_
        refine X_iconst k_i_1 d55 ?_
        refine X_iload 5 d56 rfl ?_
        refine X_ishl d58 ?_
        refine X_ior d59 ?_
        refine X_bWi fun v60 _ => ?_
        refine X_istoren (lv' := [(3, vi v60), (0, vr a0), (1, vi a1), (2, vi a2), (4, vi a4), (5, vi a5)]) d60 (by decide) rfl ?_
        refine X_sub [1, 2, 3, 0, 4, 5] rfl ?_
        exact (T2_reachedBelow_b61 ih) M48 a0 a1 a2 v60 a4 a5
  · refine X_sub [0, 1, 2, 3, 4] rfl ?_
    exact (T2_reachedBelow_b67 hK5) M a0 a1 a2 a3 a4

theorem dd2_reachedBelow_b5 : AllD (ib i2_reachedBelow) [(5, .iload 4, 2), (7, .aload_n 0, 1), (8, .getfield 43, 3), (11, .getfield 90, 3), (14, .if_icmp .ge 59, 3), (17, .iconst 0, 1), (18, .istore 5, 2), (73, .iload_n 3, 1), (74, .ireturn, 1)] := allD_of (by decide +kernel)
def f2_reachedBelow_b5_body (rc : MM → Nat → Int32 → Int32 → Int32 → Int32 → Option (Int32 × MM)) (M : MM) (a0 : Nat) (a1 : Int32) (a2 : Int32) (a3 : Int32) (a4 : Int32) : Option (Int32 × MM) :=
  aO M a0 2 <|
  aO M (mR M a0 7) 7 <|
  if (mI M (mR M a0 7) 4) ≤ a4 then
    some (a3, M)
  else
    (f2_reachedBelow_b20 rc) M a0 a1 a2 a3 a4 (0 : Int32)
def f2_reachedBelow_b5 : MM → Nat → Int32 → Int32 → Int32 → Int32 → Option (Int32 × MM) := LP6 (f2_reachedBelow_b5_body) FU
set_option maxRecDepth 4000 in
theorem T2_reachedBelow_b5 : ∀ (M : MM) (a0 : Nat) (a1 : Int32) (a2 : Int32) (a3 : Int32) (a4 : Int32), X Li i2_reachedBelow 5 [(0, vr a0), (1, vi a1), (2, vi a2), (3, vi a3), (4, vi a4)] [] M (f2_reachedBelow_b5 M a0 a1 a2 a3 a4) := by
  obtain ⟨d5, d7, d8, d11, d14, d17, d18, d73, d74, -⟩ := dd2_reachedBelow_b5
  refine LP6_i (P := fun M a0 a1 a2 a3 a4 o => X Li i2_reachedBelow 5 [(0, vr a0), (1, vi a1), (2, vi a2), (3, vi a3), (4, vi a4)] [] M o) (fun _ _ _ _ _ _ => X_none) (fun rc ih M a0 a1 a2 a3 a4 => ?_) FU
  unfold f2_reachedBelow_b5_body
  refine X_iload 4 d5 rfl ?_
  refine X_aloadn 0 d7 rfl ?_
  refine X_getR d8 fg_x2_43 ?_
  refine X_getI d11 fg_x2_90 ?_
  refine X_icmp_ge (t := 73) d14 rfl (fun h14 => ?_) (fun h14 => ?_)
  · refine X_iloadn 3 d73 rfl ?_
    exact X_ireturn d74 rfl rfl
  · refine X_iconst k_i_0 d17 ?_
    refine X_istore (lv' := [(5, vi (0 : Int32)), (0, vr a0), (1, vi a1), (2, vi a2), (3, vi a3), (4, vi a4)]) d18 (by decide) rfl ?_
    refine X_sub [1, 2, 3, 4, 5, 0] rfl ?_
    exact (T2_reachedBelow_b20 ih) M a0 a1 a2 a3 a4 (0 : Int32)

theorem dd2_reachedBelow : AllD (ib i2_reachedBelow) [(0, .iconst 0, 1), (1, .istore_n 3, 1), (2, .iconst 0, 1), (3, .istore 4, 2)] := allD_of (by decide +kernel)
def f2_reachedBelow (M : MM) (a0 : Nat) (a1 : Int32) (a2 : Int32) : Option (Int32 × MM) :=
  f2_reachedBelow_b5 M a0 a1 a2 (0 : Int32) (0 : Int32)
set_option maxRecDepth 4000 in
theorem T2_reachedBelow (M : MM) (a0 : Nat) (a1 : Int32) (a2 : Int32) : ∀ q, f2_reachedBelow M a0 a1 a2 = some q → Run i2_reachedBelow [vr a0, vi a1, vi a2] M (Li q) := by
  obtain ⟨d0, d1, d2, d3, -⟩ := dd2_reachedBelow
  refine Run_of_X (by decide) (Nat.le_of_ble_eq_true rfl) ?_
  show X Li i2_reachedBelow 0 [(0, vr a0), (1, vi a1), (2, vi a2)] [] M _
  unfold f2_reachedBelow
  refine X_iconst k_i_0 d0 ?_
  refine X_istoren (lv' := [(3, vi (0 : Int32)), (0, vr a0), (1, vi a1), (2, vi a2)]) d1 (by decide) rfl ?_
  refine X_iconst k_i_0 d2 ?_
  refine X_istore (lv' := [(4, vi (0 : Int32)), (3, vi (0 : Int32)), (0, vr a0), (1, vi a1), (2, vi a2)]) d3 (by decide) rfl ?_
  refine X_sub [2, 3, 4, 1, 0] rfl ?_
  exact T2_reachedBelow_b5 M a0 a1 a2 (0 : Int32) (0 : Int32)

theorem dd2_highestFrom_b86 : AllD (ib i2_highestFrom) [(86, .iinc 6 1, 3), (89, .goto (-53), 3)] := allD_of (by decide +kernel)
def f2_highestFrom_b86 (K36 : MM → Nat → Nat → Int32 → Int32 → Int32 → Int32 → Int32 → Option (Int32 × MM)) (M : MM) (a0 : Nat) (a1 : Nat) (a2 : Int32) (a3 : Int32) (a4 : Int32) (a5 : Int32) (a6 : Int32) : Option (Int32 × MM) :=
  K36 M a0 a1 a2 a3 a4 a5 (a6 + (1 : Int32))
set_option maxRecDepth 4000 in
theorem T2_highestFrom_b86 {K36 : MM → Nat → Nat → Int32 → Int32 → Int32 → Int32 → Int32 → Option (Int32 × MM)} (hK36 : ∀ (M : MM) (a0 : Nat) (a1 : Nat) (a2 : Int32) (a3 : Int32) (a4 : Int32) (a5 : Int32) (a6 : Int32), X Li i2_highestFrom 36 [(0, vr a0), (1, vr a1), (2, vi a2), (3, vi a3), (4, vi a4), (5, vi a5), (6, vi a6)] [] M (K36 M a0 a1 a2 a3 a4 a5 a6)) : ∀ (M : MM) (a0 : Nat) (a1 : Nat) (a2 : Int32) (a3 : Int32) (a4 : Int32) (a5 : Int32) (a6 : Int32), X Li i2_highestFrom 86 [(0, vr a0), (1, vr a1), (2, vi a2), (3, vi a3), (4, vi a4), (5, vi a5), (6, vi a6)] [] M (f2_highestFrom_b86 K36 M a0 a1 a2 a3 a4 a5 a6) := by
  obtain ⟨d86, d89, -⟩ := dd2_highestFrom_b86
  intro M a0 a1 a2 a3 a4 a5 a6
  unfold f2_highestFrom_b86
  refine X_inc (lv' := [(6, vi (a6 + (1 : Int32))), (0, vr a0), (1, vr a1), (2, vi a2), (3, vi a3), (4, vi a4), (5, vi a5)]) 6 d86 k_i_1 rfl (by decide) rfl ?_
  refine X_goto (t := 36) d89 rfl ?_
  refine X_sub [1, 2, 3, 4, 5, 6, 0] rfl ?_
  exact hK36 M a0 a1 a2 a3 a4 a5 (a6 + (1 : Int32))

theorem dd2_highestFrom_b36 : AllD (ib i2_highestFrom) [(36, .iload 6, 2), (38, .aload_n 0, 1), (39, .getfield 43, 3), (42, .getfield 90, 3), (45, .if_icmp .ge 47, 3), (48, .iload_n 3, 1), (49, .iload 6, 2), (51, .iushr, 1), (52, .iconst 1, 1), (53, .iand, 1), (54, .iconst 1, 1), (55, .if_icmp .ne 31, 3), (58, .aload_n 0, 1), (59, .iload 6, 2), (61, .iload 5, 2), (63, .invokevirtual 122, 3), (66, .istore 7, 2), (68, .iload 7, 2), (70, .iconst (-1), 1), (71, .if_icmp .ne 5, 3), (74, .iconst (-1), 1), (75, .ireturn, 1), (76, .iload_n 2, 1), (77, .iload 4, 2), (79, .iload 7, 2), (81, .iadd, 1), (82, .invokestatic 96, 3), (85, .istore_n 2, 1), (92, .aload_n 0, 1), (93, .iload_n 3, 1), (94, .iload 5, 2), (96, .invokevirtual 125, 3), (99, .istore_n 3, 1), (100, .iinc 4 (-1), 3), (103, .goto (-83), 3)] := allD_of (by decide +kernel)
def f2_highestFrom_b36_body (K20 : MM → Nat → Nat → Int32 → Int32 → Int32 → Option (Int32 × MM)) (rc : MM → Nat → Nat → Int32 → Int32 → Int32 → Int32 → Int32 → Option (Int32 × MM)) (M : MM) (a0 : Nat) (a1 : Nat) (a2 : Int32) (a3 : Int32) (a4 : Int32) (a5 : Int32) (a6 : Int32) : Option (Int32 × MM) :=
  aO M a0 2 <|
  aO M (mR M a0 7) 7 <|
  if (mI M (mR M a0 7) 4) ≤ a6 then
    aO M a0 2 <|
    cI (f2_reachedBelow M a0 a3 a5) fun r96 M96 =>
    K20 M96 a0 a1 a2 r96 (a4 + (-1 : Int32))
  else
    if ((ushr a3 a6) &&& (1 : Int32)) = (1 : Int32) then
      aO M a0 2 <|
      cI (f2_riseOf M a0 a6 a5) fun r63 M63 =>
      if r63 = (-1 : Int32) then
        some ((-1 : Int32), M63)
      else
        bW (mxI a2 (a4 + r63)) fun v85 =>
        (f2_highestFrom_b86 rc) M63 a0 a1 v85 a3 a4 a5 a6
    else
      (f2_highestFrom_b86 rc) M a0 a1 a2 a3 a4 a5 a6
def f2_highestFrom_b36 (K20 : MM → Nat → Nat → Int32 → Int32 → Int32 → Option (Int32 × MM)) : MM → Nat → Nat → Int32 → Int32 → Int32 → Int32 → Int32 → Option (Int32 × MM) := LP8 (f2_highestFrom_b36_body K20) FU
set_option maxRecDepth 4000 in
theorem T2_highestFrom_b36 {K20 : MM → Nat → Nat → Int32 → Int32 → Int32 → Option (Int32 × MM)} (hK20 : ∀ (M : MM) (a0 : Nat) (a1 : Nat) (a2 : Int32) (a3 : Int32) (a4 : Int32), X Li i2_highestFrom 20 [(0, vr a0), (1, vr a1), (2, vi a2), (3, vi a3), (4, vi a4)] [] M (K20 M a0 a1 a2 a3 a4)) : ∀ (M : MM) (a0 : Nat) (a1 : Nat) (a2 : Int32) (a3 : Int32) (a4 : Int32) (a5 : Int32) (a6 : Int32), X Li i2_highestFrom 36 [(0, vr a0), (1, vr a1), (2, vi a2), (3, vi a3), (4, vi a4), (5, vi a5), (6, vi a6)] [] M (f2_highestFrom_b36 K20 M a0 a1 a2 a3 a4 a5 a6) := by
  obtain ⟨d36, d38, d39, d42, d45, d48, d49, d51, d52, d53, d54, d55, d58, d59, d61, d63, d66, d68, d70, d71, d74, d75, d76, d77, d79, d81, d82, d85, d92, d93, d94, d96, d99, d100, d103, -⟩ := dd2_highestFrom_b36
  refine LP8_i (P := fun M a0 a1 a2 a3 a4 a5 a6 o => X Li i2_highestFrom 36 [(0, vr a0), (1, vr a1), (2, vi a2), (3, vi a3), (4, vi a4), (5, vi a5), (6, vi a6)] [] M o) (fun _ _ _ _ _ _ _ _ => X_none) (fun rc ih M a0 a1 a2 a3 a4 a5 a6 => ?_) FU
  unfold f2_highestFrom_b36_body
  refine X_iload 6 d36 rfl ?_
  refine X_aloadn 0 d38 rfl ?_
  refine X_getR d39 fg_x2_43 ?_
  refine X_getI d42 fg_x2_90 ?_
  refine X_icmp_ge (t := 92) d45 rfl (fun h45 => ?_) (fun h45 => ?_)
  · refine X_aloadn 0 d92 rfl ?_
    refine X_iloadn 3 d93 rfl ?_
    refine X_iload 5 d94 rfl ?_
    refine X_cVi (as := [vi a3, vi a5]) d96 cv_x2_125 ⟨by decide, by decide⟩ rfl (Nat.le_of_ble_eq_true rfl) (T2_reachedBelow M a0 a3 a5) (fun r96 M96 _ => ?_)
    refine X_istoren (lv' := [(3, vi r96), (0, vr a0), (1, vr a1), (2, vi a2), (4, vi a4), (5, vi a5), (6, vi a6)]) d99 (by decide) rfl ?_
    refine X_inc (lv' := [(4, vi (a4 + (-1 : Int32))), (3, vi r96), (0, vr a0), (1, vr a1), (2, vi a2), (5, vi a5), (6, vi a6)]) 4 d100 k_i_m1 rfl (by decide) rfl ?_
    refine X_goto (t := 20) d103 rfl ?_
    refine X_sub [2, 3, 4, 1, 0] rfl ?_
    exact hK20 M96 a0 a1 a2 r96 (a4 + (-1 : Int32))
  · refine X_iloadn 3 d48 rfl ?_
    refine X_iload 6 d49 rfl ?_
    refine X_iushr d51 ?_
    refine X_iconst k_i_1 d52 ?_
    refine X_iand d53 ?_
    refine X_iconst k_i_1 d54 ?_
    refine X_icmp_ne (t := 86) d55 rfl (fun h55 => ?_) (fun h55 => ?_)
    · refine X_aloadn 0 d58 rfl ?_
      refine X_iload 6 d59 rfl ?_
      refine X_iload 5 d61 rfl ?_
      refine X_cVi (as := [vi a6, vi a5]) d63 cv_x2_122 ⟨by decide, by decide⟩ rfl (Nat.le_of_ble_eq_true rfl) (T2_riseOf M a0 a6 a5) (fun r63 M63 _ => ?_)
      refine X_istore (lv' := [(7, vi r63), (0, vr a0), (1, vr a1), (2, vi a2), (3, vi a3), (4, vi a4), (5, vi a5), (6, vi a6)]) d66 (by decide) rfl ?_
      refine X_iload 0 d68 rfl ?_
      refine X_iconst k_i_m1 d70 ?_
      refine X_icmp_ne (t := 76) d71 rfl (fun h71 => ?_) (fun h71 => ?_)
      · refine X_iconst k_i_m1 d74 ?_
        exact X_ireturn d75 rfl rfl
      · refine X_iloadn 3 d76 rfl ?_
        refine X_iload 5 d77 rfl ?_
        refine X_iload 0 d79 rfl ?_
        refine X_iadd d81 ?_
        refine X_maxI d82 mw_x2_96 ⟨by decide, by decide⟩ (Nat.le_of_ble_eq_true rfl) ?_
        refine X_bWi fun v85 _ => ?_
        refine X_istoren (lv' := [(2, vi v85), (7, vi r63), (0, vr a0), (1, vr a1), (3, vi a3), (4, vi a4), (5, vi a5), (6, vi a6)]) d85 (by decide) rfl ?_
        refine X_sub [2, 3, 0, 4, 5, 6, 7] rfl ?_
        exact (T2_highestFrom_b86 ih) M63 a0 a1 v85 a3 a4 a5 a6
    · exact (T2_highestFrom_b86 ih) M a0 a1 a2 a3 a4 a5 a6

theorem dd2_highestFrom_b20 : AllD (ib i2_highestFrom) [(20, .iload 4, 2), (22, .ifCond .lt 84, 3), (25, .aload_n 1, 1), (26, .iload 4, 2), (28, .invokevirtual 119, 3), (31, .istore 5, 2), (33, .iconst 0, 1), (34, .istore 6, 2), (106, .iload_n 2, 1), (107, .ireturn, 1)] := allD_of (by decide +kernel)
def f2_highestFrom_b20_body (rc : MM → Nat → Nat → Int32 → Int32 → Int32 → Option (Int32 × MM)) (M : MM) (a0 : Nat) (a1 : Nat) (a2 : Int32) (a3 : Int32) (a4 : Int32) : Option (Int32 × MM) :=
  if a4 < 0 then
    some (a2, M)
  else
    aO M a1 6 <|
    cI (f6_signAt M a1 a4) fun r28 M28 =>
    (f2_highestFrom_b36 rc) M28 a0 a1 a2 a3 a4 r28 (0 : Int32)
def f2_highestFrom_b20 : MM → Nat → Nat → Int32 → Int32 → Int32 → Option (Int32 × MM) := LP6 (f2_highestFrom_b20_body) FU
set_option maxRecDepth 4000 in
theorem T2_highestFrom_b20 : ∀ (M : MM) (a0 : Nat) (a1 : Nat) (a2 : Int32) (a3 : Int32) (a4 : Int32), X Li i2_highestFrom 20 [(0, vr a0), (1, vr a1), (2, vi a2), (3, vi a3), (4, vi a4)] [] M (f2_highestFrom_b20 M a0 a1 a2 a3 a4) := by
  obtain ⟨d20, d22, d25, d26, d28, d31, d33, d34, d106, d107, -⟩ := dd2_highestFrom_b20
  refine LP6_i (P := fun M a0 a1 a2 a3 a4 o => X Li i2_highestFrom 20 [(0, vr a0), (1, vr a1), (2, vi a2), (3, vi a3), (4, vi a4)] [] M o) (fun _ _ _ _ _ _ => X_none) (fun rc ih M a0 a1 a2 a3 a4 => ?_) FU
  unfold f2_highestFrom_b20_body
  refine X_iload 4 d20 rfl ?_
  refine X_if_lt (t := 106) d22 rfl (fun h22 => ?_) (fun h22 => ?_)
  · refine X_iloadn 2 d106 rfl ?_
    exact X_ireturn d107 rfl rfl
  · refine X_aloadn 1 d25 rfl ?_
    refine X_iload 4 d26 rfl ?_
    refine X_cVi (as := [vi a4]) d28 cv_x2_119 ⟨by decide, by decide⟩ rfl (Nat.le_of_ble_eq_true rfl) (T6_signAt M a1 a4) (fun r28 M28 _ => ?_)
    refine X_istore (lv' := [(5, vi r28), (0, vr a0), (1, vr a1), (2, vi a2), (3, vi a3), (4, vi a4)]) d31 (by decide) rfl ?_
    refine X_iconst k_i_0 d33 ?_
    refine X_istore (lv' := [(6, vi (0 : Int32)), (5, vi r28), (0, vr a0), (1, vr a1), (2, vi a2), (3, vi a3), (4, vi a4)]) d34 (by decide) rfl ?_
    refine X_sub [2, 3, 4, 5, 6, 1, 0] rfl ?_
    exact (T2_highestFrom_b36 ih) M28 a0 a1 a2 a3 a4 r28 (0 : Int32)

theorem dd2_highestFrom : AllD (ib i2_highestFrom) [(0, .aload_n 1, 1), (1, .getfield 111, 3), (4, .istore_n 2, 1), (5, .iconst 1, 1), (6, .aload_n 1, 1), (7, .getfield 116, 3), (10, .ishl, 1), (11, .istore_n 3, 1), (12, .aload_n 1, 1), (13, .getfield 111, 3), (16, .iconst 1, 1), (17, .isub, 1), (18, .istore 4, 2)] := allD_of (by decide +kernel)
def f2_highestFrom (M : MM) (a0 : Nat) (a1 : Nat) : Option (Int32 × MM) :=
  aO M a1 6 <|
  bW (mI M a1 3) fun v4 =>
  aO M a1 6 <|
  bW ((1 : Int32) <<< ((mI M a1 2) &&& 31)) fun v11 =>
  aO M a1 6 <|
  bW ((mI M a1 3) - (1 : Int32)) fun v18 =>
  f2_highestFrom_b20 M a0 a1 v4 v11 v18
set_option maxRecDepth 4000 in
theorem T2_highestFrom (M : MM) (a0 : Nat) (a1 : Nat) : ∀ q, f2_highestFrom M a0 a1 = some q → Run i2_highestFrom [vr a0, vr a1] M (Li q) := by
  obtain ⟨d0, d1, d4, d5, d6, d7, d10, d11, d12, d13, d16, d17, d18, -⟩ := dd2_highestFrom
  refine Run_of_X (by decide) (Nat.le_of_ble_eq_true rfl) ?_
  show X Li i2_highestFrom 0 [(0, vr a0), (1, vr a1)] [] M _
  unfold f2_highestFrom
  refine X_aloadn 1 d0 rfl ?_
  refine X_getI d1 fg_x2_111 ?_
  refine X_bWi fun v4 _ => ?_
  refine X_istoren (lv' := [(2, vi v4), (0, vr a0), (1, vr a1)]) d4 (by decide) rfl ?_
  refine X_iconst k_i_1 d5 ?_
  refine X_aloadn 2 d6 rfl ?_
  refine X_getI d7 fg_x2_116 ?_
  refine X_ishl d10 ?_
  refine X_bWi fun v11 _ => ?_
  refine X_istoren (lv' := [(3, vi v11), (2, vi v4), (0, vr a0), (1, vr a1)]) d11 (by decide) rfl ?_
  refine X_aloadn 3 d12 rfl ?_
  refine X_getI d13 fg_x2_111 ?_
  refine X_iconst k_i_1 d16 ?_
  refine X_isub d17 ?_
  refine X_bWi fun v18 _ => ?_
  refine X_istore (lv' := [(4, vi v18), (3, vi v11), (2, vi v4), (0, vr a0), (1, vr a1)]) d18 (by decide) rfl ?_
  refine X_sub [3, 4, 2, 1, 0] rfl ?_
  exact T2_highestFrom_b20 M a0 a1 v4 v11 v18

theorem dd2_init : AllD (ib i2_init) [(0, .aload_n 0, 1), (1, .invokespecial 5, 3), (4, .aload_n 0, 1), (5, .new 11, 3), (8, .dup, 1), (9, .bipush 30, 2), (11, .invokespecial 13, 3), (14, .putfield 16, 3), (17, .aload_n 0, 1), (18, .new 11, 3), (21, .dup, 1), (22, .bipush 30, 2), (24, .invokespecial 13, 3), (27, .putfield 20, 3), (30, .aload_n 0, 1), (31, .new 23, 3), (34, .dup, 1), (35, .bipush 30, 2), (37, .invokespecial 25, 3), (40, .putfield 26, 3), (43, .aload_n 0, 1), (44, .new 23, 3), (47, .dup, 1), (48, .sipush 150, 3), (51, .invokespecial 25, 3), (54, .putfield 30, 3), (57, .aload_n 0, 1), (58, .new 23, 3), (61, .dup, 1), (62, .iconst 5, 1), (63, .invokespecial 25, 3), (66, .putfield 33, 3), (69, .aload_n 0, 1), (70, .new 23, 3), (73, .dup, 1), (74, .iconst 5, 1), (75, .invokespecial 25, 3), (78, .putfield 36, 3), (81, .aload_n 0, 1), (82, .iconst 0, 1), (83, .putfield 39, 3), (86, .aload_n 0, 1), (87, .aload_n 1, 1), (88, .putfield 43, 3), (91, .aload_n 0, 1), (92, .aload_n 2, 1), (93, .putfield 47, 3), (96, .return_, 1)] := allD_of (by decide +kernel)
def f2_init (M : MM) (a0 : Nat) (a1 : Nat) (a2 : Nat) : Option MM :=
  gd (a0 ≠ 0) <|
  bW (mz M) fun q5 =>
  bM (nw M 6 1) fun M5 =>
  gd (q5 ≠ 0) <|
  cV (f3_init M5 q5 (30 : Int32)) fun M11 =>
  aO M11 a0 2 <|
  bM (sR M11 a0 0 q5) fun M14 =>
  bW (mz M14) fun q18 =>
  bM (nw M14 6 1) fun M18 =>
  gd (q18 ≠ 0) <|
  cV (f3_init M18 q18 (30 : Int32)) fun M24 =>
  aO M24 a0 2 <|
  bM (sR M24 a0 1 q18) fun M27 =>
  bW (mz M27) fun q31 =>
  bM (nw M27 7 1) fun M31 =>
  gd (q31 ≠ 0) <|
  cV (f4_init M31 q31 (30 : Int32)) fun M37 =>
  aO M37 a0 2 <|
  bM (sR M37 a0 2 q31) fun M40 =>
  bW (mz M40) fun q44 =>
  bM (nw M40 7 1) fun M44 =>
  gd (q44 ≠ 0) <|
  cV (f4_init M44 q44 (150 : Int32)) fun M51 =>
  aO M51 a0 2 <|
  bM (sR M51 a0 3 q44) fun M54 =>
  bW (mz M54) fun q58 =>
  bM (nw M54 7 1) fun M58 =>
  gd (q58 ≠ 0) <|
  cV (f4_init M58 q58 (5 : Int32)) fun M63 =>
  aO M63 a0 2 <|
  bM (sR M63 a0 4 q58) fun M66 =>
  bW (mz M66) fun q70 =>
  bM (nw M66 7 1) fun M70 =>
  gd (q70 ≠ 0) <|
  cV (f4_init M70 q70 (5 : Int32)) fun M75 =>
  aO M75 a0 2 <|
  bM (sR M75 a0 5 q70) fun M78 =>
  aO M78 a0 2 <|
  bM (sI M78 a0 8 (0 : Int32)) fun M83 =>
  aO M83 a0 2 <|
  bM (sR M83 a0 7 a1) fun M88 =>
  aO M88 a0 2 <|
  bM (sR M88 a0 6 a2) fun M93 =>
  some M93
set_option maxRecDepth 4000 in
theorem T2_init (M : MM) (a0 : Nat) (a1 : Nat) (a2 : Nat) : ∀ q, f2_init M a0 a1 a2 = some q → Run i2_init [vr a0, vr a1, vr a2] M (Lv q) := by
  obtain ⟨d0, d1, d4, d5, d8, d9, d11, d14, d17, d18, d21, d22, d24, d27, d30, d31, d34, d35, d37, d40, d43, d44, d47, d48, d51, d54, d57, d58, d61, d62, d63, d66, d69, d70, d73, d74, d75, d78, d81, d82, d83, d86, d87, d88, d91, d92, d93, d96, -⟩ := dd2_init
  refine Run_of_X (by decide) (Nat.le_of_ble_eq_true rfl) ?_
  show X Lv i2_init 0 [(0, vr a0), (1, vr a1), (2, vr a2)] [] M _
  unfold f2_init
  refine X_aloadn 0 d0 rfl ?_
  refine X_objInit d1 oi_x2_5 (by decide) (Nat.le_of_ble_eq_true rfl) ?_
  refine X_aloadn 0 d4 rfl ?_
  refine X_new d5 nc_x2_11 ?_
  refine X_bWr fun q5 _ => ?_
  refine X_bM fun M5 _ => ?_
  refine X_dupr d8 ?_
  refine X_bipush k_b_30 d9 ?_
  refine X_cIv (as := [vi (30 : Int32)]) d11 ci_x2_13 ⟨by decide, by decide⟩ rfl (Nat.le_of_ble_eq_true rfl) (T3_init M5 q5 (30 : Int32)) (fun M11 _ => ?_)
  refine X_putRF d14 fp_x2_16 (RefT.obj _) rfl rfl ?_
  refine X_bM fun M14 _ => ?_
  refine X_aloadn 0 d17 rfl ?_
  refine X_new d18 nc_x2_11 ?_
  refine X_bWr fun q18 _ => ?_
  refine X_bM fun M18 _ => ?_
  refine X_dupr d21 ?_
  refine X_bipush k_b_30 d22 ?_
  refine X_cIv (as := [vi (30 : Int32)]) d24 ci_x2_13 ⟨by decide, by decide⟩ rfl (Nat.le_of_ble_eq_true rfl) (T3_init M18 q18 (30 : Int32)) (fun M24 _ => ?_)
  refine X_putRF d27 fp_x2_20 (RefT.obj _) rfl rfl ?_
  refine X_bM fun M27 _ => ?_
  refine X_aloadn 0 d30 rfl ?_
  refine X_new d31 nc_x2_23 ?_
  refine X_bWr fun q31 _ => ?_
  refine X_bM fun M31 _ => ?_
  refine X_dupr d34 ?_
  refine X_bipush k_b_30 d35 ?_
  refine X_cIv (as := [vi (30 : Int32)]) d37 ci_x2_25 ⟨by decide, by decide⟩ rfl (Nat.le_of_ble_eq_true rfl) (T4_init M31 q31 (30 : Int32)) (fun M37 _ => ?_)
  refine X_putRF d40 fp_x2_26 (RefT.obj _) rfl rfl ?_
  refine X_bM fun M40 _ => ?_
  refine X_aloadn 0 d43 rfl ?_
  refine X_new d44 nc_x2_23 ?_
  refine X_bWr fun q44 _ => ?_
  refine X_bM fun M44 _ => ?_
  refine X_dupr d47 ?_
  refine X_sipush k_s_150 d48 ?_
  refine X_cIv (as := [vi (150 : Int32)]) d51 ci_x2_25 ⟨by decide, by decide⟩ rfl (Nat.le_of_ble_eq_true rfl) (T4_init M44 q44 (150 : Int32)) (fun M51 _ => ?_)
  refine X_putRF d54 fp_x2_30 (RefT.obj _) rfl rfl ?_
  refine X_bM fun M54 _ => ?_
  refine X_aloadn 0 d57 rfl ?_
  refine X_new d58 nc_x2_23 ?_
  refine X_bWr fun q58 _ => ?_
  refine X_bM fun M58 _ => ?_
  refine X_dupr d61 ?_
  refine X_iconst k_i_5 d62 ?_
  refine X_cIv (as := [vi (5 : Int32)]) d63 ci_x2_25 ⟨by decide, by decide⟩ rfl (Nat.le_of_ble_eq_true rfl) (T4_init M58 q58 (5 : Int32)) (fun M63 _ => ?_)
  refine X_putRF d66 fp_x2_33 (RefT.obj _) rfl rfl ?_
  refine X_bM fun M66 _ => ?_
  refine X_aloadn 0 d69 rfl ?_
  refine X_new d70 nc_x2_23 ?_
  refine X_bWr fun q70 _ => ?_
  refine X_bM fun M70 _ => ?_
  refine X_dupr d73 ?_
  refine X_iconst k_i_5 d74 ?_
  refine X_cIv (as := [vi (5 : Int32)]) d75 ci_x2_25 ⟨by decide, by decide⟩ rfl (Nat.le_of_ble_eq_true rfl) (T4_init M70 q70 (5 : Int32)) (fun M75 _ => ?_)
  refine X_putRF d78 fp_x2_36 (RefT.obj _) rfl rfl ?_
  refine X_bM fun M78 _ => ?_
  refine X_aloadn 0 d81 rfl ?_
  refine X_iconst k_i_0 d82 ?_
  refine X_putI d83 fp_x2_39 ?_
  refine X_bM fun M83 _ => ?_
  refine X_aloadn 0 d86 rfl ?_
  refine X_aloadn 1 d87 rfl ?_
  refine X_putR d88 fp_x2_43 (RefT.obj _) ?_
  refine X_bM fun M88 _ => ?_
  refine X_aloadn 0 d91 rfl ?_
  refine X_aloadn 2 d92 rfl ?_
  refine X_putRF d93 fp_x2_47 (RefT.obj _) rfl rfl ?_
  refine X_bM fun M93 _ => ?_
  exact X_vreturn d96 rfl rfl

theorem dd2_isLasting : AllD (ib i2_isLasting) [(0, .aload_n 0, 1), (1, .getfield 20, 3), (4, .iload_n 1, 1), (5, .iload_n 2, 1), (6, .invokestatic 57, 3), (9, .invokevirtual 72, 3), (12, .iconst 1, 1), (13, .if_icmp .ne 7, 3), (16, .iconst 1, 1), (17, .goto 4, 3), (20, .iconst 0, 1), (21, .ireturn, 1)] := allD_of (by decide +kernel)
def f2_isLasting (M : MM) (a0 : Nat) (a1 : Int32) (a2 : Int32) : Option (Int32 × MM) :=
  aO M a0 2 <|
  cI (f2_headOf M a1 a2) fun r6 M6 =>
  aO M6 (mR M a0 1) 3 <|
  cI (f3_get M6 (mR M a0 1) r6) fun r9 M9 =>
  if r9 = (1 : Int32) then
    some ((1 : Int32), M9)
  else
    some ((0 : Int32), M9)
set_option maxRecDepth 4000 in
theorem T2_isLasting (M : MM) (a0 : Nat) (a1 : Int32) (a2 : Int32) : ∀ q, f2_isLasting M a0 a1 a2 = some q → Run i2_isLasting [vr a0, vi a1, vi a2] M (Li q) := by
  obtain ⟨d0, d1, d4, d5, d6, d9, d12, d13, d16, d17, d20, d21, -⟩ := dd2_isLasting
  refine Run_of_X (by decide) (Nat.le_of_ble_eq_true rfl) ?_
  show X Li i2_isLasting 0 [(0, vr a0), (1, vi a1), (2, vi a2)] [] M _
  unfold f2_isLasting
  refine X_aloadn 0 d0 rfl ?_
  refine X_getR d1 fg_x2_20 ?_
  refine X_iloadn 1 d4 rfl ?_
  refine X_iloadn 2 d5 rfl ?_
  refine X_cSi (as := [vi a1, vi a2]) d6 cs_x2_57 ⟨by decide, by decide⟩ rfl (Nat.le_of_ble_eq_true rfl) (T2_headOf M a1 a2) (fun r6 M6 _ => ?_)
  refine X_cVi (as := [vi r6]) d9 cv_x2_72 ⟨by decide, by decide⟩ rfl (Nat.le_of_ble_eq_true rfl) (T3_get M6 (mR M a0 1) r6) (fun r9 M9 _ => ?_)
  refine X_iconst k_i_1 d12 ?_
  refine X_icmp_ne (t := 20) d13 rfl (fun h13 => ?_) (fun h13 => ?_)
  · refine X_iconst k_i_1 d16 ?_
    refine X_goto (t := 21) d17 rfl ?_
    exact X_zreturnc d21 rfl (by decide) rfl
  · refine X_iconst k_i_0 d20 ?_
    exact X_zreturnc d21 rfl (by decide) rfl

theorem dd2_lastsFrom_b63 : AllD (ib i2_lastsFrom) [(63, .iinc 5 1, 3), (66, .goto (-38), 3)] := allD_of (by decide +kernel)
def f2_lastsFrom_b63 (K28 : MM → Nat → Nat → Int32 → Int32 → Int32 → Int32 → Option (Int32 × MM)) (M : MM) (a0 : Nat) (a1 : Nat) (a2 : Int32) (a3 : Int32) (a4 : Int32) (a5 : Int32) : Option (Int32 × MM) :=
  K28 M a0 a1 a2 a3 a4 (a5 + (1 : Int32))
set_option maxRecDepth 4000 in
theorem T2_lastsFrom_b63 {K28 : MM → Nat → Nat → Int32 → Int32 → Int32 → Int32 → Option (Int32 × MM)} (hK28 : ∀ (M : MM) (a0 : Nat) (a1 : Nat) (a2 : Int32) (a3 : Int32) (a4 : Int32) (a5 : Int32), X Li i2_lastsFrom 28 [(0, vr a0), (1, vr a1), (2, vi a2), (3, vi a3), (4, vi a4), (5, vi a5)] [] M (K28 M a0 a1 a2 a3 a4 a5)) : ∀ (M : MM) (a0 : Nat) (a1 : Nat) (a2 : Int32) (a3 : Int32) (a4 : Int32) (a5 : Int32), X Li i2_lastsFrom 63 [(0, vr a0), (1, vr a1), (2, vi a2), (3, vi a3), (4, vi a4), (5, vi a5)] [] M (f2_lastsFrom_b63 K28 M a0 a1 a2 a3 a4 a5) := by
  obtain ⟨d63, d66, -⟩ := dd2_lastsFrom_b63
  intro M a0 a1 a2 a3 a4 a5
  unfold f2_lastsFrom_b63
  refine X_inc (lv' := [(5, vi (a5 + (1 : Int32))), (0, vr a0), (1, vr a1), (2, vi a2), (3, vi a3), (4, vi a4)]) 5 d63 k_i_1 rfl (by decide) rfl ?_
  refine X_goto (t := 28) d66 rfl ?_
  refine X_sub [1, 2, 3, 4, 5, 0] rfl ?_
  exact hK28 M a0 a1 a2 a3 a4 (a5 + (1 : Int32))

theorem dd2_lastsFrom_b28 : AllD (ib i2_lastsFrom) [(28, .iload 5, 2), (30, .aload_n 0, 1), (31, .getfield 43, 3), (34, .getfield 90, 3), (37, .if_icmp .ge 32, 3), (40, .iload_n 2, 1), (41, .iload 5, 2), (43, .iushr, 1), (44, .iconst 1, 1), (45, .iand, 1), (46, .iconst 1, 1), (47, .if_icmp .ne 16, 3), (50, .aload_n 0, 1), (51, .iload 5, 2), (53, .iload 4, 2), (55, .invokevirtual 134, 3), (58, .ifCond .eq 5, 3), (61, .iconst 1, 1), (62, .ireturn, 1), (69, .aload_n 0, 1), (70, .iload_n 2, 1), (71, .iload 4, 2), (73, .invokevirtual 125, 3), (76, .istore_n 2, 1), (77, .iinc 3 (-1), 3), (80, .goto (-66), 3)] := allD_of (by decide +kernel)
def f2_lastsFrom_b28_body (K14 : MM → Nat → Nat → Int32 → Int32 → Option (Int32 × MM)) (rc : MM → Nat → Nat → Int32 → Int32 → Int32 → Int32 → Option (Int32 × MM)) (M : MM) (a0 : Nat) (a1 : Nat) (a2 : Int32) (a3 : Int32) (a4 : Int32) (a5 : Int32) : Option (Int32 × MM) :=
  aO M a0 2 <|
  aO M (mR M a0 7) 7 <|
  if (mI M (mR M a0 7) 4) ≤ a5 then
    aO M a0 2 <|
    cI (f2_reachedBelow M a0 a2 a4) fun r73 M73 =>
    K14 M73 a0 a1 r73 (a3 + (-1 : Int32))
  else
    if ((ushr a2 a5) &&& (1 : Int32)) = (1 : Int32) then
      aO M a0 2 <|
      cI (f2_isLasting M a0 a5 a4) fun r55 M55 =>
      if r55 = 0 then
        (f2_lastsFrom_b63 rc) M55 a0 a1 a2 a3 a4 a5
      else
        some ((1 : Int32), M55)
    else
      (f2_lastsFrom_b63 rc) M a0 a1 a2 a3 a4 a5
def f2_lastsFrom_b28 (K14 : MM → Nat → Nat → Int32 → Int32 → Option (Int32 × MM)) : MM → Nat → Nat → Int32 → Int32 → Int32 → Int32 → Option (Int32 × MM) := LP7 (f2_lastsFrom_b28_body K14) FU
set_option maxRecDepth 4000 in
theorem T2_lastsFrom_b28 {K14 : MM → Nat → Nat → Int32 → Int32 → Option (Int32 × MM)} (hK14 : ∀ (M : MM) (a0 : Nat) (a1 : Nat) (a2 : Int32) (a3 : Int32), X Li i2_lastsFrom 14 [(0, vr a0), (1, vr a1), (2, vi a2), (3, vi a3)] [] M (K14 M a0 a1 a2 a3)) : ∀ (M : MM) (a0 : Nat) (a1 : Nat) (a2 : Int32) (a3 : Int32) (a4 : Int32) (a5 : Int32), X Li i2_lastsFrom 28 [(0, vr a0), (1, vr a1), (2, vi a2), (3, vi a3), (4, vi a4), (5, vi a5)] [] M (f2_lastsFrom_b28 K14 M a0 a1 a2 a3 a4 a5) := by
  obtain ⟨d28, d30, d31, d34, d37, d40, d41, d43, d44, d45, d46, d47, d50, d51, d53, d55, d58, d61, d62, d69, d70, d71, d73, d76, d77, d80, -⟩ := dd2_lastsFrom_b28
  refine LP7_i (P := fun M a0 a1 a2 a3 a4 a5 o => X Li i2_lastsFrom 28 [(0, vr a0), (1, vr a1), (2, vi a2), (3, vi a3), (4, vi a4), (5, vi a5)] [] M o) (fun _ _ _ _ _ _ _ => X_none) (fun rc ih M a0 a1 a2 a3 a4 a5 => ?_) FU
  unfold f2_lastsFrom_b28_body
  refine X_iload 5 d28 rfl ?_
  refine X_aloadn 0 d30 rfl ?_
  refine X_getR d31 fg_x2_43 ?_
  refine X_getI d34 fg_x2_90 ?_
  refine X_icmp_ge (t := 69) d37 rfl (fun h37 => ?_) (fun h37 => ?_)
  · refine X_aloadn 0 d69 rfl ?_
    refine X_iloadn 2 d70 rfl ?_
    refine X_iload 4 d71 rfl ?_
    refine X_cVi (as := [vi a2, vi a4]) d73 cv_x2_125 ⟨by decide, by decide⟩ rfl (Nat.le_of_ble_eq_true rfl) (T2_reachedBelow M a0 a2 a4) (fun r73 M73 _ => ?_)
    refine X_istoren (lv' := [(2, vi r73), (0, vr a0), (1, vr a1), (3, vi a3), (4, vi a4), (5, vi a5)]) d76 (by decide) rfl ?_
    refine X_inc (lv' := [(3, vi (a3 + (-1 : Int32))), (2, vi r73), (0, vr a0), (1, vr a1), (4, vi a4), (5, vi a5)]) 3 d77 k_i_m1 rfl (by decide) rfl ?_
    refine X_goto (t := 14) d80 rfl ?_
    refine X_sub [2, 3, 1, 0] rfl ?_
    exact hK14 M73 a0 a1 r73 (a3 + (-1 : Int32))
  · refine X_iloadn 2 d40 rfl ?_
    refine X_iload 5 d41 rfl ?_
    refine X_iushr d43 ?_
    refine X_iconst k_i_1 d44 ?_
    refine X_iand d45 ?_
    refine X_iconst k_i_1 d46 ?_
    refine X_icmp_ne (t := 63) d47 rfl (fun h47 => ?_) (fun h47 => ?_)
    · refine X_aloadn 0 d50 rfl ?_
      refine X_iload 5 d51 rfl ?_
      refine X_iload 4 d53 rfl ?_
      refine X_cVi (as := [vi a5, vi a4]) d55 cv_x2_134 ⟨by decide, by decide⟩ rfl (Nat.le_of_ble_eq_true rfl) (T2_isLasting M a0 a5 a4) (fun r55 M55 _ => ?_)
      refine X_if_eq (t := 63) d58 rfl (fun h58 => ?_) (fun h58 => ?_)
      · exact (T2_lastsFrom_b63 ih) M55 a0 a1 a2 a3 a4 a5
      · refine X_iconst k_i_1 d61 ?_
        exact X_zreturnc d62 rfl (by decide) rfl
    · exact (T2_lastsFrom_b63 ih) M a0 a1 a2 a3 a4 a5

theorem dd2_lastsFrom_b14 : AllD (ib i2_lastsFrom) [(14, .iload_n 3, 1), (15, .ifCond .lt 68, 3), (18, .aload_n 1, 1), (19, .iload_n 3, 1), (20, .invokevirtual 119, 3), (23, .istore 4, 2), (25, .iconst 0, 1), (26, .istore 5, 2), (83, .iconst 0, 1), (84, .ireturn, 1)] := allD_of (by decide +kernel)
def f2_lastsFrom_b14_body (rc : MM → Nat → Nat → Int32 → Int32 → Option (Int32 × MM)) (M : MM) (a0 : Nat) (a1 : Nat) (a2 : Int32) (a3 : Int32) : Option (Int32 × MM) :=
  if a3 < 0 then
    some ((0 : Int32), M)
  else
    aO M a1 6 <|
    cI (f6_signAt M a1 a3) fun r20 M20 =>
    (f2_lastsFrom_b28 rc) M20 a0 a1 a2 a3 r20 (0 : Int32)
def f2_lastsFrom_b14 : MM → Nat → Nat → Int32 → Int32 → Option (Int32 × MM) := LP5 (f2_lastsFrom_b14_body) FU
set_option maxRecDepth 4000 in
theorem T2_lastsFrom_b14 : ∀ (M : MM) (a0 : Nat) (a1 : Nat) (a2 : Int32) (a3 : Int32), X Li i2_lastsFrom 14 [(0, vr a0), (1, vr a1), (2, vi a2), (3, vi a3)] [] M (f2_lastsFrom_b14 M a0 a1 a2 a3) := by
  obtain ⟨d14, d15, d18, d19, d20, d23, d25, d26, d83, d84, -⟩ := dd2_lastsFrom_b14
  refine LP5_i (P := fun M a0 a1 a2 a3 o => X Li i2_lastsFrom 14 [(0, vr a0), (1, vr a1), (2, vi a2), (3, vi a3)] [] M o) (fun _ _ _ _ _ => X_none) (fun rc ih M a0 a1 a2 a3 => ?_) FU
  unfold f2_lastsFrom_b14_body
  refine X_iloadn 3 d14 rfl ?_
  refine X_if_lt (t := 83) d15 rfl (fun h15 => ?_) (fun h15 => ?_)
  · refine X_iconst k_i_0 d83 ?_
    exact X_zreturnc d84 rfl (by decide) rfl
  · refine X_aloadn 1 d18 rfl ?_
    refine X_iloadn 3 d19 rfl ?_
    refine X_cVi (as := [vi a3]) d20 cv_x2_119 ⟨by decide, by decide⟩ rfl (Nat.le_of_ble_eq_true rfl) (T6_signAt M a1 a3) (fun r20 M20 _ => ?_)
    refine X_istore (lv' := [(4, vi r20), (0, vr a0), (1, vr a1), (2, vi a2), (3, vi a3)]) d23 (by decide) rfl ?_
    refine X_iconst k_i_0 d25 ?_
    refine X_istore (lv' := [(5, vi (0 : Int32)), (4, vi r20), (0, vr a0), (1, vr a1), (2, vi a2), (3, vi a3)]) d26 (by decide) rfl ?_
    refine X_sub [2, 3, 4, 5, 1, 0] rfl ?_
    exact (T2_lastsFrom_b28 ih) M20 a0 a1 a2 a3 r20 (0 : Int32)

theorem dd2_lastsFrom : AllD (ib i2_lastsFrom) [(0, .iconst 1, 1), (1, .aload_n 1, 1), (2, .getfield 116, 3), (5, .ishl, 1), (6, .istore_n 2, 1), (7, .aload_n 1, 1), (8, .getfield 111, 3), (11, .iconst 1, 1), (12, .isub, 1), (13, .istore_n 3, 1)] := allD_of (by decide +kernel)
def f2_lastsFrom (M : MM) (a0 : Nat) (a1 : Nat) : Option (Int32 × MM) :=
  aO M a1 6 <|
  bW ((1 : Int32) <<< ((mI M a1 2) &&& 31)) fun v6 =>
  aO M a1 6 <|
  bW ((mI M a1 3) - (1 : Int32)) fun v13 =>
  f2_lastsFrom_b14 M a0 a1 v6 v13
set_option maxRecDepth 4000 in
theorem T2_lastsFrom (M : MM) (a0 : Nat) (a1 : Nat) : ∀ q, f2_lastsFrom M a0 a1 = some q → Run i2_lastsFrom [vr a0, vr a1] M (Li q) := by
  obtain ⟨d0, d1, d2, d5, d6, d7, d8, d11, d12, d13, -⟩ := dd2_lastsFrom
  refine Run_of_X (by decide) (Nat.le_of_ble_eq_true rfl) ?_
  show X Li i2_lastsFrom 0 [(0, vr a0), (1, vr a1)] [] M _
  unfold f2_lastsFrom
  refine X_iconst k_i_1 d0 ?_
  refine X_aloadn 1 d1 rfl ?_
  refine X_getI d2 fg_x2_116 ?_
  refine X_ishl d5 ?_
  refine X_bWi fun v6 _ => ?_
  refine X_istoren (lv' := [(2, vi v6), (0, vr a0), (1, vr a1)]) d6 (by decide) rfl ?_
  refine X_aloadn 2 d7 rfl ?_
  refine X_getI d8 fg_x2_111 ?_
  refine X_iconst k_i_1 d11 ?_
  refine X_isub d12 ?_
  refine X_bWi fun v13 _ => ?_
  refine X_istoren (lv' := [(3, vi v13), (2, vi v6), (0, vr a0), (1, vr a1)]) d13 (by decide) rfl ?_
  refine X_sub [2, 3, 1, 0] rfl ?_
  exact T2_lastsFrom_b14 M a0 a1 v6 v13

theorem dd2_lookAt : AllD (ib i2_lookAt) [(0, .aload_n 0, 1), (1, .aload_n 1, 1), (2, .putfield 43, 3), (5, .aload_n 0, 1), (6, .iload_n 2, 1), (7, .putfield 39, 3), (10, .return_, 1)] := allD_of (by decide +kernel)
def f2_lookAt (M : MM) (a0 : Nat) (a1 : Nat) (a2 : Int32) : Option MM :=
  aO M a0 2 <|
  bM (sR M a0 7 a1) fun M2 =>
  aO M2 a0 2 <|
  bM (sI M2 a0 8 a2) fun M7 =>
  some M7
set_option maxRecDepth 4000 in
theorem T2_lookAt (M : MM) (a0 : Nat) (a1 : Nat) (a2 : Int32) : ∀ q, f2_lookAt M a0 a1 a2 = some q → Run i2_lookAt [vr a0, vr a1, vi a2] M (Lv q) := by
  obtain ⟨d0, d1, d2, d5, d6, d7, d10, -⟩ := dd2_lookAt
  refine Run_of_X (by decide) (Nat.le_of_ble_eq_true rfl) ?_
  show X Lv i2_lookAt 0 [(0, vr a0), (1, vr a1), (2, vi a2)] [] M _
  unfold f2_lookAt
  refine X_aloadn 0 d0 rfl ?_
  refine X_aloadn 1 d1 rfl ?_
  refine X_putR d2 fp_x2_43 (RefT.obj _) ?_
  refine X_bM fun M2 _ => ?_
  refine X_aloadn 0 d5 rfl ?_
  refine X_iloadn 2 d6 rfl ?_
  refine X_putI d7 fp_x2_39 ?_
  refine X_bM fun M7 _ => ?_
  exact X_vreturn d10 rfl rfl

theorem dd2_mostStepsFrom_b122 : AllD (ib i2_mostStepsFrom) [(122, .iinc 6 1, 3), (125, .goto (-67), 3)] := allD_of (by decide +kernel)
def f2_mostStepsFrom_b122 (K58 : MM → Nat → Nat → Int64 → Int32 → Int32 → Int32 → Option (Int64 × MM)) (M : MM) (a0 : Nat) (a1 : Nat) (a2 : Int64) (a4 : Int32) (a5 : Int32) (a6 : Int32) : Option (Int64 × MM) :=
  K58 M a0 a1 a2 a4 a5 (a6 + (1 : Int32))
set_option maxRecDepth 4000 in
theorem T2_mostStepsFrom_b122 {K58 : MM → Nat → Nat → Int64 → Int32 → Int32 → Int32 → Option (Int64 × MM)} (hK58 : ∀ (M : MM) (a0 : Nat) (a1 : Nat) (a2 : Int64) (a4 : Int32) (a5 : Int32) (a6 : Int32), X Ll i2_mostStepsFrom 58 [(0, vr a0), (1, vr a1), (2, vl a2), (4, vi a4), (5, vi a5), (6, vi a6)] [] M (K58 M a0 a1 a2 a4 a5 a6)) : ∀ (M : MM) (a0 : Nat) (a1 : Nat) (a2 : Int64) (a4 : Int32) (a5 : Int32) (a6 : Int32), X Ll i2_mostStepsFrom 122 [(0, vr a0), (1, vr a1), (2, vl a2), (4, vi a4), (5, vi a5), (6, vi a6)] [] M (f2_mostStepsFrom_b122 K58 M a0 a1 a2 a4 a5 a6) := by
  obtain ⟨d122, d125, -⟩ := dd2_mostStepsFrom_b122
  intro M a0 a1 a2 a4 a5 a6
  unfold f2_mostStepsFrom_b122
  refine X_inc (lv' := [(6, vi (a6 + (1 : Int32))), (0, vr a0), (1, vr a1), (2, vl a2), (4, vi a4), (5, vi a5)]) 5 d122 k_i_1 rfl (by decide) rfl ?_
  refine X_goto (t := 58) d125 rfl ?_
  refine X_sub [1, 2, 3, 4, 5, 0] rfl ?_
  exact hK58 M a0 a1 a2 a4 a5 (a6 + (1 : Int32))

theorem dd2_mostStepsFrom_b131 : AllD (ib i2_mostStepsFrom) [(131, .iload 6, 2), (133, .aload_n 0, 1), (134, .getfield 43, 3), (137, .getfield 90, 3), (140, .if_icmp .ge 27, 3), (143, .aload_n 0, 1), (144, .getfield 33, 3), (147, .iload 6, 2), (149, .aload_n 0, 1), (150, .getfield 36, 3), (153, .iload 6, 2), (155, .invokevirtual 153, 3), (158, .invokevirtual 158, 3), (161, .iinc 6 1, 3), (164, .goto (-33), 3), (167, .iinc 4 (-1), 3), (170, .goto (-138), 3)] := allD_of (by decide +kernel)
def f2_mostStepsFrom_b131_body (K32 : MM → Nat → Nat → Int64 → Int32 → Option (Int64 × MM)) (rc : MM → Nat → Nat → Int64 → Int32 → Int32 → Option (Int64 × MM)) (M : MM) (a0 : Nat) (a1 : Nat) (a2 : Int64) (a4 : Int32) (a6 : Int32) : Option (Int64 × MM) :=
  aO M a0 2 <|
  aO M (mR M a0 7) 7 <|
  if (mI M (mR M a0 7) 4) ≤ a6 then
    K32 M a0 a1 a2 (a4 + (-1 : Int32))
  else
    aO M a0 2 <|
    aO M a0 2 <|
    aO M (mR M a0 5) 4 <|
    cJ (f4_get M (mR M a0 5) a6) fun r155 M155 =>
    aO M155 (mR M a0 4) 4 <|
    cV (f4_set M155 (mR M a0 4) a6 r155) fun M158 =>
    rc M158 a0 a1 a2 a4 (a6 + (1 : Int32))
def f2_mostStepsFrom_b131 (K32 : MM → Nat → Nat → Int64 → Int32 → Option (Int64 × MM)) : MM → Nat → Nat → Int64 → Int32 → Int32 → Option (Int64 × MM) := LP6 (f2_mostStepsFrom_b131_body K32) FU
set_option maxRecDepth 4000 in
theorem T2_mostStepsFrom_b131 {K32 : MM → Nat → Nat → Int64 → Int32 → Option (Int64 × MM)} (hK32 : ∀ (M : MM) (a0 : Nat) (a1 : Nat) (a2 : Int64) (a4 : Int32), X Ll i2_mostStepsFrom 32 [(0, vr a0), (1, vr a1), (2, vl a2), (4, vi a4)] [] M (K32 M a0 a1 a2 a4)) : ∀ (M : MM) (a0 : Nat) (a1 : Nat) (a2 : Int64) (a4 : Int32) (a6 : Int32), X Ll i2_mostStepsFrom 131 [(0, vr a0), (1, vr a1), (2, vl a2), (4, vi a4), (6, vi a6)] [] M (f2_mostStepsFrom_b131 K32 M a0 a1 a2 a4 a6) := by
  obtain ⟨d131, d133, d134, d137, d140, d143, d144, d147, d149, d150, d153, d155, d158, d161, d164, d167, d170, -⟩ := dd2_mostStepsFrom_b131
  refine LP6_i (P := fun M a0 a1 a2 a4 a6 o => X Ll i2_mostStepsFrom 131 [(0, vr a0), (1, vr a1), (2, vl a2), (4, vi a4), (6, vi a6)] [] M o) (fun _ _ _ _ _ _ => X_none) (fun rc ih M a0 a1 a2 a4 a6 => ?_) FU
  unfold f2_mostStepsFrom_b131_body
  refine X_iload 4 d131 rfl ?_
  refine X_aloadn 0 d133 rfl ?_
  refine X_getR d134 fg_x2_43 ?_
  refine X_getI d137 fg_x2_90 ?_
  refine X_icmp_ge (t := 167) d140 rfl (fun h140 => ?_) (fun h140 => ?_)
  · refine X_inc (lv' := [(4, vi (a4 + (-1 : Int32))), (0, vr a0), (1, vr a1), (2, vl a2), (6, vi a6)]) 3 d167 k_i_m1 rfl (by decide) rfl ?_
    refine X_goto (t := 32) d170 rfl ?_
    refine X_sub [1, 2, 3, 0] rfl ?_
    exact hK32 M a0 a1 a2 (a4 + (-1 : Int32))
  · refine X_aloadn 0 d143 rfl ?_
    refine X_getR d144 fg_x2_33 ?_
    refine X_iload 4 d147 rfl ?_
    refine X_aloadn 0 d149 rfl ?_
    refine X_getR d150 fg_x2_36 ?_
    refine X_iload 4 d153 rfl ?_
    refine X_cVl (as := [vi a6]) d155 cv_x2_153 ⟨by decide, by decide⟩ rfl (Nat.le_of_ble_eq_true rfl) (T4_get M (mR M a0 5) a6) (fun r155 M155 _ => ?_)
    refine X_cVv (as := [vi a6, vl r155]) d158 cv_x2_158 ⟨by decide, by decide⟩ rfl (Nat.le_of_ble_eq_true rfl) (T4_set M155 (mR M a0 4) a6 r155) (fun M158 _ => ?_)
    refine X_inc (lv' := [(6, vi (a6 + (1 : Int32))), (0, vr a0), (1, vr a1), (2, vl a2), (4, vi a4)]) 4 d161 k_i_1 rfl (by decide) rfl ?_
    refine X_goto (t := 131) d164 rfl ?_
    refine X_sub [1, 2, 3, 4, 0] rfl ?_
    exact ih M158 a0 a1 a2 a4 (a6 + (1 : Int32))

theorem dd2_mostStepsFrom_b58 : AllD (ib i2_mostStepsFrom) [(58, .iload 6, 2), (60, .aload_n 0, 1), (61, .getfield 43, 3), (64, .getfield 90, 3), (67, .if_icmp .ge 61, 3), (70, .aload_n 0, 1), (71, .getfield 33, 3), (74, .iload 6, 2), (76, .invokevirtual 153, 3), (79, .lstore 7, 2), (81, .lload 7, 2), (83, .lconst 0, 1), (84, .lcmp, 1), (85, .ifCond .lt 37, 3), (88, .lload_n 2, 1), (89, .lload 7, 2), (91, .aload_n 0, 1), (92, .getfield 26, 3), (95, .iload 6, 2), (97, .iload 5, 2), (99, .invokestatic 57, 3), (102, .invokevirtual 153, 3), (105, .invokestatic 149, 3), (108, .invokestatic 156, 3), (111, .lstore_n 2, 1), (112, .aload_n 0, 1), (113, .iload 6, 2), (115, .iload 5, 2), (117, .lload 7, 2), (119, .invokevirtual 170, 3), (128, .iconst 0, 1), (129, .istore 6, 2)] := allD_of (by decide +kernel)
def f2_mostStepsFrom_b58_body (K32 : MM → Nat → Nat → Int64 → Int32 → Option (Int64 × MM)) (rc : MM → Nat → Nat → Int64 → Int32 → Int32 → Int32 → Option (Int64 × MM)) (M : MM) (a0 : Nat) (a1 : Nat) (a2 : Int64) (a4 : Int32) (a5 : Int32) (a6 : Int32) : Option (Int64 × MM) :=
  aO M a0 2 <|
  aO M (mR M a0 7) 7 <|
  if (mI M (mR M a0 7) 4) ≤ a6 then
    (f2_mostStepsFrom_b131 K32) M a0 a1 a2 a4 (0 : Int32)
  else
    aO M a0 2 <|
    aO M (mR M a0 4) 4 <|
    cJ (f4_get M (mR M a0 4) a6) fun r76 M76 =>
    if r76 < (0 : Int64) then
      (f2_mostStepsFrom_b122 rc) M76 a0 a1 a2 a4 a5 a6
    else
      aO M76 a0 2 <|
      cI (f2_headOf M76 a6 a5) fun r99 M99 =>
      aO M99 (mR M76 a0 2) 4 <|
      cJ (f4_get M99 (mR M76 a0 2) r99) fun r102 M102 =>
      cJ (f4_sum M102 r76 r102) fun r105 M105 =>
      bW (mxL a2 r105) fun v111 =>
      aO M105 a0 2 <|
      cV (f2_goBelow M105 a0 a6 a5 r76) fun M119 =>
      (f2_mostStepsFrom_b122 rc) M119 a0 a1 v111 a4 a5 a6
def f2_mostStepsFrom_b58 (K32 : MM → Nat → Nat → Int64 → Int32 → Option (Int64 × MM)) : MM → Nat → Nat → Int64 → Int32 → Int32 → Int32 → Option (Int64 × MM) := LP7 (f2_mostStepsFrom_b58_body K32) FU
set_option maxRecDepth 4000 in
theorem T2_mostStepsFrom_b58 {K32 : MM → Nat → Nat → Int64 → Int32 → Option (Int64 × MM)} (hK32 : ∀ (M : MM) (a0 : Nat) (a1 : Nat) (a2 : Int64) (a4 : Int32), X Ll i2_mostStepsFrom 32 [(0, vr a0), (1, vr a1), (2, vl a2), (4, vi a4)] [] M (K32 M a0 a1 a2 a4)) : ∀ (M : MM) (a0 : Nat) (a1 : Nat) (a2 : Int64) (a4 : Int32) (a5 : Int32) (a6 : Int32), X Ll i2_mostStepsFrom 58 [(0, vr a0), (1, vr a1), (2, vl a2), (4, vi a4), (5, vi a5), (6, vi a6)] [] M (f2_mostStepsFrom_b58 K32 M a0 a1 a2 a4 a5 a6) := by
  obtain ⟨d58, d60, d61, d64, d67, d70, d71, d74, d76, d79, d81, d83, d84, d85, d88, d89, d91, d92, d95, d97, d99, d102, d105, d108, d111, d112, d113, d115, d117, d119, d128, d129, -⟩ := dd2_mostStepsFrom_b58
  refine LP7_i (P := fun M a0 a1 a2 a4 a5 a6 o => X Ll i2_mostStepsFrom 58 [(0, vr a0), (1, vr a1), (2, vl a2), (4, vi a4), (5, vi a5), (6, vi a6)] [] M o) (fun _ _ _ _ _ _ _ => X_none) (fun rc ih M a0 a1 a2 a4 a5 a6 => ?_) FU
  unfold f2_mostStepsFrom_b58_body
  refine X_iload 5 d58 rfl ?_
  refine X_aloadn 0 d60 rfl ?_
  refine X_getR d61 fg_x2_43 ?_
  refine X_getI d64 fg_x2_90 ?_
  refine X_icmp_ge (t := 128) d67 rfl (fun h67 => ?_) (fun h67 => ?_)
  · refine X_iconst k_i_0 d128 ?_
    refine X_istore (lv' := [(6, vi (0 : Int32)), (0, vr a0), (1, vr a1), (2, vl a2), (4, vi a4), (5, vi a5)]) d129 (by decide) rfl ?_
    refine X_sub [1, 2, 3, 4, 0] rfl ?_
    exact (T2_mostStepsFrom_b131 hK32) M a0 a1 a2 a4 (0 : Int32)
  · refine X_aloadn 0 d70 rfl ?_
    refine X_getR d71 fg_x2_33 ?_
    refine X_iload 5 d74 rfl ?_
    refine X_cVl (as := [vi a6]) d76 cv_x2_153 ⟨by decide, by decide⟩ rfl (Nat.le_of_ble_eq_true rfl) (T4_get M (mR M a0 4) a6) (fun r76 M76 _ => ?_)
    refine X_lstore (lv' := [(7, vl r76), (0, vr a0), (1, vr a1), (2, vl a2), (4, vi a4), (5, vi a5), (6, vi a6)]) d79 (by decide) rfl ?_
    refine X_lload 0 d81 rfl ?_
    refine X_lconst k_l_0 d83 ?_
    refine X_lif_lt (t := 122) d84 d85 rfl (fun h84 => ?_) (fun h84 => ?_)
    · refine X_sub [1, 2, 3, 4, 5, 6] rfl ?_
      exact (T2_mostStepsFrom_b122 ih) M76 a0 a1 a2 a4 a5 a6
    · refine X_lloadn 3 d88 rfl ?_
      refine X_lload 0 d89 rfl ?_
      refine X_aloadn 1 d91 rfl ?_
      refine X_getR d92 fg_x2_26 ?_
      refine X_iload 6 d95 rfl ?_
      refine X_iload 5 d97 rfl ?_
      refine X_cSi (as := [vi a6, vi a5]) d99 cs_x2_57 ⟨by decide, by decide⟩ rfl (Nat.le_of_ble_eq_true rfl) (T2_headOf M76 a6 a5) (fun r99 M99 _ => ?_)
      refine X_cVl (as := [vi r99]) d102 cv_x2_153 ⟨by decide, by decide⟩ rfl (Nat.le_of_ble_eq_true rfl) (T4_get M99 (mR M76 a0 2) r99) (fun r102 M102 _ => ?_)
      refine X_cSl (as := [vl r76, vl r102]) d105 cs_x2_149 ⟨by decide, by decide⟩ rfl (Nat.le_of_ble_eq_true rfl) (T4_sum M102 r76 r102) (fun r105 M105 _ => ?_)
      refine X_maxL d108 mw_x2_156 ⟨by decide, by decide⟩ (Nat.le_of_ble_eq_true rfl) ?_
      refine X_bWl fun v111 _ => ?_
      refine X_lstoren (lv' := [(2, vl v111), (7, vl r76), (0, vr a0), (1, vr a1), (4, vi a4), (5, vi a5), (6, vi a6)]) d111 (by decide) rfl ?_
      refine X_aloadn 2 d112 rfl ?_
      refine X_iload 6 d113 rfl ?_
      refine X_iload 5 d115 rfl ?_
      refine X_lload 1 d117 rfl ?_
      refine X_cVv (as := [vi a6, vi a5, vl r76]) d119 cv_x2_170 ⟨by decide, by decide⟩ rfl (Nat.le_of_ble_eq_true rfl) (T2_goBelow M105 a0 a6 a5 r76) (fun M119 _ => ?_)
      refine X_sub [2, 3, 0, 4, 5, 6] rfl ?_
      exact (T2_mostStepsFrom_b122 ih) M119 a0 a1 v111 a4 a5 a6

theorem dd2_mostStepsFrom_b32 : AllD (ib i2_mostStepsFrom) [(32, .iload 4, 2), (34, .ifCond .lt 139, 3), (37, .aload_n 1, 1), (38, .iload 4, 2), (40, .invokevirtual 119, 3), (43, .istore 5, 2), (45, .aload_n 0, 1), (46, .getfield 36, 3), (49, .ldc2_w 140, 3), (52, .invokevirtual 137, 3), (55, .iconst 0, 1), (56, .istore 6, 2), (173, .lload_n 2, 1), (174, .lreturn, 1)] := allD_of (by decide +kernel)
def f2_mostStepsFrom_b32_body (rc : MM → Nat → Nat → Int64 → Int32 → Option (Int64 × MM)) (M : MM) (a0 : Nat) (a1 : Nat) (a2 : Int64) (a4 : Int32) : Option (Int64 × MM) :=
  if a4 < 0 then
    some (a2, M)
  else
    aO M a1 6 <|
    cI (f6_signAt M a1 a4) fun r40 M40 =>
    aO M40 a0 2 <|
    aO M40 (mR M40 a0 5) 4 <|
    cV (f4_fill M40 (mR M40 a0 5) (-1 : Int64)) fun M52 =>
    (f2_mostStepsFrom_b58 rc) M52 a0 a1 a2 a4 r40 (0 : Int32)
def f2_mostStepsFrom_b32 : MM → Nat → Nat → Int64 → Int32 → Option (Int64 × MM) := LP5 (f2_mostStepsFrom_b32_body) FU
set_option maxRecDepth 4000 in
theorem T2_mostStepsFrom_b32 : ∀ (M : MM) (a0 : Nat) (a1 : Nat) (a2 : Int64) (a4 : Int32), X Ll i2_mostStepsFrom 32 [(0, vr a0), (1, vr a1), (2, vl a2), (4, vi a4)] [] M (f2_mostStepsFrom_b32 M a0 a1 a2 a4) := by
  obtain ⟨d32, d34, d37, d38, d40, d43, d45, d46, d49, d52, d55, d56, d173, d174, -⟩ := dd2_mostStepsFrom_b32
  refine LP5_i (P := fun M a0 a1 a2 a4 o => X Ll i2_mostStepsFrom 32 [(0, vr a0), (1, vr a1), (2, vl a2), (4, vi a4)] [] M o) (fun _ _ _ _ _ => X_none) (fun rc ih M a0 a1 a2 a4 => ?_) FU
  unfold f2_mostStepsFrom_b32_body
  refine X_iload 3 d32 rfl ?_
  refine X_if_lt (t := 173) d34 rfl (fun h34 => ?_) (fun h34 => ?_)
  · refine X_lloadn 2 d173 rfl ?_
    exact X_lreturn d174 rfl rfl
  · refine X_aloadn 1 d37 rfl ?_
    refine X_iload 3 d38 rfl ?_
    refine X_cVi (as := [vi a4]) d40 cv_x2_119 ⟨by decide, by decide⟩ rfl (Nat.le_of_ble_eq_true rfl) (T6_signAt M a1 a4) (fun r40 M40 _ => ?_)
    refine X_istore (lv' := [(5, vi r40), (0, vr a0), (1, vr a1), (2, vl a2), (4, vi a4)]) d43 (by decide) rfl ?_
    refine X_aloadn 1 d45 rfl ?_
    refine X_getR d46 fg_x2_36 ?_
    refine X_ldc2 kc_x2_140 d49 ?_
    refine X_cVv (as := [vl (-1 : Int64)]) d52 cv_x2_137 ⟨by decide, by decide⟩ rfl (Nat.le_of_ble_eq_true rfl) (T4_fill M40 (mR M40 a0 5) (-1 : Int64)) (fun M52 _ => ?_)
    refine X_iconst k_i_0 d55 ?_
    refine X_istore (lv' := [(6, vi (0 : Int32)), (5, vi r40), (0, vr a0), (1, vr a1), (2, vl a2), (4, vi a4)]) d56 (by decide) rfl ?_
    refine X_sub [2, 3, 4, 5, 1, 0] rfl ?_
    exact (T2_mostStepsFrom_b58 ih) M52 a0 a1 a2 a4 r40 (0 : Int32)

theorem dd2_mostStepsFrom : AllD (ib i2_mostStepsFrom) [(0, .lconst 0, 1), (1, .lstore_n 2, 1), (2, .aload_n 0, 1), (3, .getfield 33, 3), (6, .ldc2_w 140, 3), (9, .invokevirtual 137, 3), (12, .aload_n 0, 1), (13, .getfield 33, 3), (16, .aload_n 1, 1), (17, .getfield 116, 3), (20, .lconst 0, 1), (21, .invokevirtual 158, 3), (24, .aload_n 1, 1), (25, .getfield 111, 3), (28, .iconst 1, 1), (29, .isub, 1), (30, .istore 4, 2)] := allD_of (by decide +kernel)
def f2_mostStepsFrom (M : MM) (a0 : Nat) (a1 : Nat) : Option (Int64 × MM) :=
  aO M a0 2 <|
  aO M (mR M a0 4) 4 <|
  cV (f4_fill M (mR M a0 4) (-1 : Int64)) fun M9 =>
  aO M9 a0 2 <|
  aO M9 a1 6 <|
  aO M9 (mR M9 a0 4) 4 <|
  cV (f4_set M9 (mR M9 a0 4) (mI M9 a1 2) (0 : Int64)) fun M21 =>
  aO M21 a1 6 <|
  bW ((mI M21 a1 3) - (1 : Int32)) fun v30 =>
  f2_mostStepsFrom_b32 M21 a0 a1 (0 : Int64) v30
set_option maxRecDepth 4000 in
theorem T2_mostStepsFrom (M : MM) (a0 : Nat) (a1 : Nat) : ∀ q, f2_mostStepsFrom M a0 a1 = some q → Run i2_mostStepsFrom [vr a0, vr a1] M (Ll q) := by
  obtain ⟨d0, d1, d2, d3, d6, d9, d12, d13, d16, d17, d20, d21, d24, d25, d28, d29, d30, -⟩ := dd2_mostStepsFrom
  refine Run_of_X (by decide) (Nat.le_of_ble_eq_true rfl) ?_
  show X Ll i2_mostStepsFrom 0 [(0, vr a0), (1, vr a1)] [] M _
  unfold f2_mostStepsFrom
  refine X_lconst k_l_0 d0 ?_
  refine X_lstoren (lv' := [(2, vl (0 : Int64)), (0, vr a0), (1, vr a1)]) d1 (by decide) rfl ?_
  refine X_aloadn 1 d2 rfl ?_
  refine X_getR d3 fg_x2_33 ?_
  refine X_ldc2 kc_x2_140 d6 ?_
  refine X_cVv (as := [vl (-1 : Int64)]) d9 cv_x2_137 ⟨by decide, by decide⟩ rfl (Nat.le_of_ble_eq_true rfl) (T4_fill M (mR M a0 4) (-1 : Int64)) (fun M9 _ => ?_)
  refine X_aloadn 1 d12 rfl ?_
  refine X_getR d13 fg_x2_33 ?_
  refine X_aloadn 2 d16 rfl ?_
  refine X_getI d17 fg_x2_116 ?_
  refine X_lconst k_l_0 d20 ?_
  refine X_cVv (as := [vi (mI M9 a1 2), vl (0 : Int64)]) d21 cv_x2_158 ⟨by decide, by decide⟩ rfl (Nat.le_of_ble_eq_true rfl) (T4_set M9 (mR M9 a0 4) (mI M9 a1 2) (0 : Int64)) (fun M21 _ => ?_)
  refine X_aloadn 2 d24 rfl ?_
  refine X_getI d25 fg_x2_111 ?_
  refine X_iconst k_i_1 d28 ?_
  refine X_isub d29 ?_
  refine X_bWi fun v30 _ => ?_
  refine X_istore (lv' := [(4, vi v30), (2, vl (0 : Int64)), (0, vr a0), (1, vr a1)]) d30 (by decide) rfl ?_
  refine X_sub [2, 3, 1, 0] rfl ?_
  exact T2_mostStepsFrom_b32 M21 a0 a1 (0 : Int64) v30

theorem dd3_widen : AllD (ib i3_widen) [(0, .iload_n 1, 1), (1, .aload_n 0, 1), (2, .getfield 9, 3), (5, .arraylength, 1), (6, .if_icmp .le 15, 3), (9, .aload_n 0, 1), (10, .aload_n 0, 1), (11, .getfield 9, 3), (14, .iload_n 1, 1), (15, .invokestatic 21, 3), (18, .putfield 9, 3), (21, .return_, 1)] := allD_of (by decide +kernel)
def f3_widen (M : MM) (a0 : Nat) (a1 : Int32) : Option MM :=
  aO M a0 3 <|
  aL M (mR M a0 0) 0 <|
  if a1 ≤ (nI (mK M (mR M a0 0)).2) then
    some M
  else
    aO M a0 3 <|
    cR (fJ_copyI M (mR M a0 0) a1) fun r15 M15 =>
    aO M15 a0 3 <|
    bM (sR M15 a0 0 r15) fun M18 =>
    some M18
set_option maxRecDepth 4000 in
theorem T3_widen (M : MM) (a0 : Nat) (a1 : Int32) : ∀ q, f3_widen M a0 a1 = some q → Run i3_widen [vr a0, vi a1] M (Lv q) := by
  obtain ⟨d0, d1, d2, d5, d6, d9, d10, d11, d14, d15, d18, d21, -⟩ := dd3_widen
  refine Run_of_X (by decide) (Nat.le_of_ble_eq_true rfl) ?_
  show X Lv i3_widen 0 [(0, vr a0), (1, vi a1)] [] M _
  unfold f3_widen
  refine X_iloadn 1 d0 rfl ?_
  refine X_aloadn 0 d1 rfl ?_
  refine X_getR d2 fg_x3_9 ?_
  refine X_alen (by decide) d5 ?_
  refine X_icmp_le (t := 21) d6 rfl (fun h6 => ?_) (fun h6 => ?_)
  · exact X_vreturn d21 rfl rfl
  · refine X_aloadn 0 d9 rfl ?_
    refine X_aloadn 0 d10 rfl ?_
    refine X_getR d11 fg_x3_9 ?_
    refine X_iloadn 1 d14 rfl ?_
    refine X_cSr (as := [vr (mR M a0 0), vi a1]) d15 cs_x3_21 ⟨by decide, by decide⟩ rfl (Nat.le_of_ble_eq_true rfl) (TJ_copyI M (mR M a0 0) a1) (fun r15 M15 _ => ?_)
    refine X_putR d18 fp_x3_9 (RefT.arr _) ?_
    refine X_bM fun M18 _ => ?_
    exact X_vreturn d21 rfl rfl

theorem dd4_widen : AllD (ib i4_widen) [(0, .iload_n 1, 1), (1, .aload_n 0, 1), (2, .getfield 13, 3), (5, .arraylength, 1), (6, .if_icmp .le 15, 3), (9, .aload_n 0, 1), (10, .aload_n 0, 1), (11, .getfield 13, 3), (14, .iload_n 1, 1), (15, .invokestatic 25, 3), (18, .putfield 13, 3), (21, .return_, 1)] := allD_of (by decide +kernel)
def f4_widen (M : MM) (a0 : Nat) (a1 : Int32) : Option MM :=
  aO M a0 4 <|
  aL M (mR M a0 0) 1 <|
  if a1 ≤ (nI (mK M (mR M a0 0)).2) then
    some M
  else
    aO M a0 4 <|
    cR (fJ_copyL M (mR M a0 0) a1) fun r15 M15 =>
    aO M15 a0 4 <|
    bM (sR M15 a0 0 r15) fun M18 =>
    some M18
set_option maxRecDepth 4000 in
theorem T4_widen (M : MM) (a0 : Nat) (a1 : Int32) : ∀ q, f4_widen M a0 a1 = some q → Run i4_widen [vr a0, vi a1] M (Lv q) := by
  obtain ⟨d0, d1, d2, d5, d6, d9, d10, d11, d14, d15, d18, d21, -⟩ := dd4_widen
  refine Run_of_X (by decide) (Nat.le_of_ble_eq_true rfl) ?_
  show X Lv i4_widen 0 [(0, vr a0), (1, vi a1)] [] M _
  unfold f4_widen
  refine X_iloadn 1 d0 rfl ?_
  refine X_aloadn 0 d1 rfl ?_
  refine X_getR d2 fg_x4_13 ?_
  refine X_alen (by decide) d5 ?_
  refine X_icmp_le (t := 21) d6 rfl (fun h6 => ?_) (fun h6 => ?_)
  · exact X_vreturn d21 rfl rfl
  · refine X_aloadn 0 d9 rfl ?_
    refine X_aloadn 0 d10 rfl ?_
    refine X_getR d11 fg_x4_13 ?_
    refine X_iloadn 1 d14 rfl ?_
    refine X_cSr (as := [vr (mR M a0 0), vi a1]) d15 cs_x4_25 ⟨by decide, by decide⟩ rfl (Nat.le_of_ble_eq_true rfl) (TJ_copyL M (mR M a0 0) a1) (fun r15 M15 _ => ?_)
    refine X_putR d18 fp_x4_13 (RefT.arr _) ?_
    refine X_bM fun M18 _ => ?_
    exact X_vreturn d21 rfl rfl

theorem dd5_addNode : AllD (ib i5_addNode) [(0, .aload_n 0, 1), (1, .getfield 40, 3), (4, .aload_n 0, 1), (5, .getfield 34, 3), (8, .iload_n 1, 1), (9, .invokevirtual 95, 3), (12, .aload_n 0, 1), (13, .getfield 75, 3), (16, .invokevirtual 102, 3), (19, .aload_n 0, 1), (20, .getfield 43, 3), (23, .aload_n 0, 1), (24, .getfield 75, 3), (27, .iload_n 1, 1), (28, .invokevirtual 102, 3), (31, .aload_n 0, 1), (32, .getfield 46, 3), (35, .aload_n 0, 1), (36, .getfield 75, 3), (39, .iload_n 2, 1), (40, .invokevirtual 102, 3), (43, .aload_n 0, 1), (44, .dup, 1), (45, .getfield 75, 3), (48, .iconst 1, 1), (49, .iadd, 1), (50, .putfield 75, 3), (53, .return_, 1)] := allD_of (by decide +kernel)
def f5_addNode (M : MM) (a0 : Nat) (a1 : Int32) (a2 : Int32) : Option MM :=
  aO M a0 5 <|
  aO M a0 5 <|
  aO M (mR M a0 5) 3 <|
  cI (f3_get M (mR M a0 5) a1) fun r9 M9 =>
  aO M9 a0 5 <|
  aO M9 (mR M a0 7) 3 <|
  cV (f3_set M9 (mR M a0 7) r9 (mI M9 a0 17)) fun M16 =>
  aO M16 a0 5 <|
  aO M16 a0 5 <|
  aO M16 (mR M16 a0 8) 3 <|
  cV (f3_set M16 (mR M16 a0 8) (mI M16 a0 17) a1) fun M28 =>
  aO M28 a0 5 <|
  aO M28 a0 5 <|
  aO M28 (mR M28 a0 9) 3 <|
  cV (f3_set M28 (mR M28 a0 9) (mI M28 a0 17) a2) fun M40 =>
  aO M40 a0 5 <|
  aO M40 a0 5 <|
  bM (sI M40 a0 17 ((mI M40 a0 17) + (1 : Int32))) fun M50 =>
  some M50
set_option maxRecDepth 4000 in
theorem T5_addNode (M : MM) (a0 : Nat) (a1 : Int32) (a2 : Int32) : ∀ q, f5_addNode M a0 a1 a2 = some q → Run i5_addNode [vr a0, vi a1, vi a2] M (Lv q) := by
  obtain ⟨d0, d1, d4, d5, d8, d9, d12, d13, d16, d19, d20, d23, d24, d27, d28, d31, d32, d35, d36, d39, d40, d43, d44, d45, d48, d49, d50, d53, -⟩ := dd5_addNode
  refine Run_of_X (by decide) (Nat.le_of_ble_eq_true rfl) ?_
  show X Lv i5_addNode 0 [(0, vr a0), (1, vi a1), (2, vi a2)] [] M _
  unfold f5_addNode
  refine X_aloadn 0 d0 rfl ?_
  refine X_getR d1 fg_x5_40 ?_
  refine X_aloadn 0 d4 rfl ?_
  refine X_getR d5 fg_x5_34 ?_
  refine X_iloadn 1 d8 rfl ?_
  refine X_cVi (as := [vi a1]) d9 cv_x5_95 ⟨by decide, by decide⟩ rfl (Nat.le_of_ble_eq_true rfl) (T3_get M (mR M a0 5) a1) (fun r9 M9 _ => ?_)
  refine X_aloadn 0 d12 rfl ?_
  refine X_getI d13 fg_x5_75 ?_
  refine X_cVv (as := [vi r9, vi (mI M9 a0 17)]) d16 cv_x5_102 ⟨by decide, by decide⟩ rfl (Nat.le_of_ble_eq_true rfl) (T3_set M9 (mR M a0 7) r9 (mI M9 a0 17)) (fun M16 _ => ?_)
  refine X_aloadn 0 d19 rfl ?_
  refine X_getR d20 fg_x5_43 ?_
  refine X_aloadn 0 d23 rfl ?_
  refine X_getI d24 fg_x5_75 ?_
  refine X_iloadn 1 d27 rfl ?_
  refine X_cVv (as := [vi (mI M16 a0 17), vi a1]) d28 cv_x5_102 ⟨by decide, by decide⟩ rfl (Nat.le_of_ble_eq_true rfl) (T3_set M16 (mR M16 a0 8) (mI M16 a0 17) a1) (fun M28 _ => ?_)
  refine X_aloadn 0 d31 rfl ?_
  refine X_getR d32 fg_x5_46 ?_
  refine X_aloadn 0 d35 rfl ?_
  refine X_getI d36 fg_x5_75 ?_
  refine X_iloadn 2 d39 rfl ?_
  refine X_cVv (as := [vi (mI M28 a0 17), vi a2]) d40 cv_x5_102 ⟨by decide, by decide⟩ rfl (Nat.le_of_ble_eq_true rfl) (T3_set M28 (mR M28 a0 9) (mI M28 a0 17) a2) (fun M40 _ => ?_)
  refine X_aloadn 0 d43 rfl ?_
  refine X_dupr d44 ?_
  refine X_getI d45 fg_x5_75 ?_
  refine X_iconst k_i_1 d48 ?_
  refine X_iadd d49 ?_
  refine X_putI d50 fp_x5_75 ?_
  refine X_bM fun M50 _ => ?_
  exact X_vreturn d53 rfl rfl

theorem dd5_kindBehind : AllD (ib i5_kindBehind) [(0, .aload_n 0, 1), (1, .getfield 34, 3), (4, .aload_n 0, 1), (5, .getfield 31, 3), (8, .iload_n 1, 1), (9, .bipush 6, 2), (11, .imul, 1), (12, .iload_n 2, 1), (13, .iadd, 1), (14, .invokevirtual 95, 3), (17, .invokevirtual 95, 3), (20, .ireturn, 1)] := allD_of (by decide +kernel)
def f5_kindBehind (M : MM) (a0 : Nat) (a1 : Int32) (a2 : Int32) : Option (Int32 × MM) :=
  aO M a0 5 <|
  aO M a0 5 <|
  aO M (mR M a0 4) 3 <|
  cI (f3_get M (mR M a0 4) ((a1 * (6 : Int32)) + a2)) fun r14 M14 =>
  aO M14 (mR M a0 5) 3 <|
  cI (f3_get M14 (mR M a0 5) r14) fun r17 M17 =>
  some (r17, M17)
set_option maxRecDepth 4000 in
theorem T5_kindBehind (M : MM) (a0 : Nat) (a1 : Int32) (a2 : Int32) : ∀ q, f5_kindBehind M a0 a1 a2 = some q → Run i5_kindBehind [vr a0, vi a1, vi a2] M (Li q) := by
  obtain ⟨d0, d1, d4, d5, d8, d9, d11, d12, d13, d14, d17, d20, -⟩ := dd5_kindBehind
  refine Run_of_X (by decide) (Nat.le_of_ble_eq_true rfl) ?_
  show X Li i5_kindBehind 0 [(0, vr a0), (1, vi a1), (2, vi a2)] [] M _
  unfold f5_kindBehind
  refine X_aloadn 0 d0 rfl ?_
  refine X_getR d1 fg_x5_34 ?_
  refine X_aloadn 0 d4 rfl ?_
  refine X_getR d5 fg_x5_31 ?_
  refine X_iloadn 1 d8 rfl ?_
  refine X_bipush k_b_6 d9 ?_
  refine X_imul d11 ?_
  refine X_iloadn 2 d12 rfl ?_
  refine X_iadd d13 ?_
  refine X_cVi (as := [vi ((a1 * (6 : Int32)) + a2)]) d14 cv_x5_95 ⟨by decide, by decide⟩ rfl (Nat.le_of_ble_eq_true rfl) (T3_get M (mR M a0 4) ((a1 * (6 : Int32)) + a2)) (fun r14 M14 _ => ?_)
  refine X_cVi (as := [vi r14]) d17 cv_x5_95 ⟨by decide, by decide⟩ rfl (Nat.le_of_ble_eq_true rfl) (T3_get M14 (mR M a0 5) r14) (fun r17 M17 _ => ?_)
  exact X_ireturn d20 rfl rfl

theorem dd5_areAlike_b23 : AllD (ib i5_areAlike) [(23, .iload_n 3, 1), (24, .aload_n 0, 1), (25, .getfield 66, 3), (28, .if_icmp .ge 26, 3), (31, .aload_n 0, 1), (32, .iload_n 1, 1), (33, .iload_n 3, 1), (34, .invokevirtual 144, 3), (37, .aload_n 0, 1), (38, .iload_n 2, 1), (39, .iload_n 3, 1), (40, .invokevirtual 144, 3), (43, .if_icmp .eq 5, 3), (46, .iconst 0, 1), (47, .ireturn, 1), (48, .iinc 3 1, 3), (51, .goto (-28), 3), (54, .iconst 1, 1), (55, .ireturn, 1)] := allD_of (by decide +kernel)
def f5_areAlike_b23_body (rc : MM → Nat → Int32 → Int32 → Int32 → Option (Int32 × MM)) (M : MM) (a0 : Nat) (a1 : Int32) (a2 : Int32) (a3 : Int32) : Option (Int32 × MM) :=
  aO M a0 5 <|
  if (mI M a0 14) ≤ a3 then
    some ((1 : Int32), M)
  else
    aO M a0 5 <|
    cI (f5_kindBehind M a0 a1 a3) fun r34 M34 =>
    aO M34 a0 5 <|
    cI (f5_kindBehind M34 a0 a2 a3) fun r40 M40 =>
    if r34 = r40 then
      rc M40 a0 a1 a2 (a3 + (1 : Int32))
    else
      some ((0 : Int32), M40)
def f5_areAlike_b23 : MM → Nat → Int32 → Int32 → Int32 → Option (Int32 × MM) := LP5 (f5_areAlike_b23_body) FU
set_option maxRecDepth 4000 in
theorem T5_areAlike_b23 : ∀ (M : MM) (a0 : Nat) (a1 : Int32) (a2 : Int32) (a3 : Int32), X Li i5_areAlike 23 [(0, vr a0), (1, vi a1), (2, vi a2), (3, vi a3)] [] M (f5_areAlike_b23 M a0 a1 a2 a3) := by
  obtain ⟨d23, d24, d25, d28, d31, d32, d33, d34, d37, d38, d39, d40, d43, d46, d47, d48, d51, d54, d55, -⟩ := dd5_areAlike_b23
  refine LP5_i (P := fun M a0 a1 a2 a3 o => X Li i5_areAlike 23 [(0, vr a0), (1, vi a1), (2, vi a2), (3, vi a3)] [] M o) (fun _ _ _ _ _ => X_none) (fun rc ih M a0 a1 a2 a3 => ?_) FU
  unfold f5_areAlike_b23_body
  refine X_iloadn 3 d23 rfl ?_
  refine X_aloadn 0 d24 rfl ?_
  refine X_getI d25 fg_x5_66 ?_
  refine X_icmp_ge (t := 54) d28 rfl (fun h28 => ?_) (fun h28 => ?_)
  · refine X_iconst k_i_1 d54 ?_
    exact X_zreturnc d55 rfl (by decide) rfl
  · refine X_aloadn 0 d31 rfl ?_
    refine X_iloadn 1 d32 rfl ?_
    refine X_iloadn 3 d33 rfl ?_
    refine X_cVi (as := [vi a1, vi a3]) d34 cv_x5_144 ⟨by decide, by decide⟩ rfl (Nat.le_of_ble_eq_true rfl) (T5_kindBehind M a0 a1 a3) (fun r34 M34 _ => ?_)
    refine X_aloadn 0 d37 rfl ?_
    refine X_iloadn 2 d38 rfl ?_
    refine X_iloadn 3 d39 rfl ?_
    refine X_cVi (as := [vi a2, vi a3]) d40 cv_x5_144 ⟨by decide, by decide⟩ rfl (Nat.le_of_ble_eq_true rfl) (T5_kindBehind M34 a0 a2 a3) (fun r40 M40 _ => ?_)
    refine X_icmp_eq (t := 48) d43 rfl (fun h43 => ?_) (fun h43 => ?_)
    · refine X_inc (lv' := [(3, vi (a3 + (1 : Int32))), (0, vr a0), (1, vi a1), (2, vi a2)]) 3 d48 k_i_1 rfl (by decide) rfl ?_
      refine X_goto (t := 23) d51 rfl ?_
      refine X_sub [1, 2, 3, 0] rfl ?_
      exact ih M40 a0 a1 a2 (a3 + (1 : Int32))
    · refine X_iconst k_i_0 d46 ?_
      exact X_zreturnc d47 rfl (by decide) rfl

theorem dd5_areAlike : AllD (ib i5_areAlike) [(0, .aload_n 0, 1), (1, .getfield 34, 3), (4, .iload_n 1, 1), (5, .invokevirtual 95, 3), (8, .aload_n 0, 1), (9, .getfield 34, 3), (12, .iload_n 2, 1), (13, .invokevirtual 95, 3), (16, .if_icmp .eq 5, 3), (19, .iconst 0, 1), (20, .ireturn, 1), (21, .iconst 0, 1), (22, .istore_n 3, 1)] := allD_of (by decide +kernel)
def f5_areAlike (M : MM) (a0 : Nat) (a1 : Int32) (a2 : Int32) : Option (Int32 × MM) :=
  aO M a0 5 <|
  aO M (mR M a0 5) 3 <|
  cI (f3_get M (mR M a0 5) a1) fun r5 M5 =>
  aO M5 a0 5 <|
  aO M5 (mR M5 a0 5) 3 <|
  cI (f3_get M5 (mR M5 a0 5) a2) fun r13 M13 =>
  if r5 = r13 then
    f5_areAlike_b23 M13 a0 a1 a2 (0 : Int32)
  else
    some ((0 : Int32), M13)
set_option maxRecDepth 4000 in
theorem T5_areAlike (M : MM) (a0 : Nat) (a1 : Int32) (a2 : Int32) : ∀ q, f5_areAlike M a0 a1 a2 = some q → Run i5_areAlike [vr a0, vi a1, vi a2] M (Li q) := by
  obtain ⟨d0, d1, d4, d5, d8, d9, d12, d13, d16, d19, d20, d21, d22, -⟩ := dd5_areAlike
  refine Run_of_X (by decide) (Nat.le_of_ble_eq_true rfl) ?_
  show X Li i5_areAlike 0 [(0, vr a0), (1, vi a1), (2, vi a2)] [] M _
  unfold f5_areAlike
  refine X_aloadn 0 d0 rfl ?_
  refine X_getR d1 fg_x5_34 ?_
  refine X_iloadn 1 d4 rfl ?_
  refine X_cVi (as := [vi a1]) d5 cv_x5_95 ⟨by decide, by decide⟩ rfl (Nat.le_of_ble_eq_true rfl) (T3_get M (mR M a0 5) a1) (fun r5 M5 _ => ?_)
  refine X_aloadn 0 d8 rfl ?_
  refine X_getR d9 fg_x5_34 ?_
  refine X_iloadn 2 d12 rfl ?_
  refine X_cVi (as := [vi a2]) d13 cv_x5_95 ⟨by decide, by decide⟩ rfl (Nat.le_of_ble_eq_true rfl) (T3_get M5 (mR M5 a0 5) a2) (fun r13 M13 _ => ?_)
  refine X_icmp_eq (t := 21) d16 rfl (fun h16 => ?_) (fun h16 => ?_)
  · refine X_iconst k_i_0 d21 ?_
    refine X_istoren (lv' := [(3, vi (0 : Int32)), (0, vr a0), (1, vi a1), (2, vi a2)]) d22 (by decide) rfl ?_
    refine X_sub [1, 2, 3, 0] rfl ?_
    exact T5_areAlike_b23 M13 a0 a1 a2 (0 : Int32)
  · refine X_iconst k_i_0 d19 ?_
    exact X_zreturnc d20 rfl (by decide) rfl

theorem dd5_bucketOf : AllD (ib i5_bucketOf) [(0, .iload_n 0, 1), (1, .ldc 122, 2), (3, .imul, 1), (4, .istore_n 1, 1), (5, .iload_n 1, 1), (6, .bipush 24, 2), (8, .iushr, 1), (9, .sipush 255, 3), (12, .iand, 1), (13, .ireturn, 1)] := allD_of (by decide +kernel)
def f5_bucketOf (M : MM) (a0 : Int32) : Option (Int32 × MM) :=
  bW (a0 * (-1640531535 : Int32)) fun v4 =>
  some ((ushr v4 (24 : Int32)) &&& (255 : Int32), M)
set_option maxRecDepth 4000 in
theorem T5_bucketOf (M : MM) (a0 : Int32) : ∀ q, f5_bucketOf M a0 = some q → Run i5_bucketOf [vi a0] M (Li q) := by
  obtain ⟨d0, d1, d3, d4, d5, d6, d8, d9, d12, d13, -⟩ := dd5_bucketOf
  refine Run_of_X (by decide) (Nat.le_of_ble_eq_true rfl) ?_
  show X Li i5_bucketOf 0 [(0, vi a0)] [] M _
  unfold f5_bucketOf
  refine X_iloadn 0 d0 rfl ?_
  refine X_ldc kc_x5_122 d1 ?_
  refine X_imul d3 ?_
  refine X_bWi fun v4 _ => ?_
  refine X_istoren (lv' := [(1, vi v4), (0, vi a0)]) d4 (by decide) rfl ?_
  refine X_iloadn 0 d5 rfl ?_
  refine X_bipush k_b_24 d6 ?_
  refine X_iushr d8 ?_
  refine X_sipush k_s_255 d9 ?_
  refine X_iand d12 ?_
  exact X_ireturn d13 rfl rfl

theorem dd5_readMoves_b85 : AllD (ib i5_readMoves) [(85, .iinc 5 1, 3), (88, .goto (-34), 3)] := allD_of (by decide +kernel)
def f5_readMoves_b85 (K54 : MM → Nat → Nat → Int32 → Int32 → Int32 → Int32 → Option MM) (M : MM) (a0 : Nat) (a1 : Nat) (a2 : Int32) (a3 : Int32) (a4 : Int32) (a5 : Int32) : Option MM :=
  K54 M a0 a1 a2 a3 a4 (a5 + (1 : Int32))
set_option maxRecDepth 4000 in
theorem T5_readMoves_b85 {K54 : MM → Nat → Nat → Int32 → Int32 → Int32 → Int32 → Option MM} (hK54 : ∀ (M : MM) (a0 : Nat) (a1 : Nat) (a2 : Int32) (a3 : Int32) (a4 : Int32) (a5 : Int32), X Lv i5_readMoves 54 [(0, vr a0), (1, vr a1), (2, vi a2), (3, vi a3), (4, vi a4), (5, vi a5)] [] M (K54 M a0 a1 a2 a3 a4 a5)) : ∀ (M : MM) (a0 : Nat) (a1 : Nat) (a2 : Int32) (a3 : Int32) (a4 : Int32) (a5 : Int32), X Lv i5_readMoves 85 [(0, vr a0), (1, vr a1), (2, vi a2), (3, vi a3), (4, vi a4), (5, vi a5)] [] M (f5_readMoves_b85 K54 M a0 a1 a2 a3 a4 a5) := by
  obtain ⟨d85, d88, -⟩ := dd5_readMoves_b85
  intro M a0 a1 a2 a3 a4 a5
  unfold f5_readMoves_b85
  refine X_inc (lv' := [(5, vi (a5 + (1 : Int32))), (0, vr a0), (1, vr a1), (2, vi a2), (3, vi a3), (4, vi a4)]) 5 d85 k_i_1 rfl (by decide) rfl ?_
  refine X_goto (t := 54) d88 rfl ?_
  refine X_sub [1, 2, 3, 4, 5, 0] rfl ?_
  exact hK54 M a0 a1 a2 a3 a4 (a5 + (1 : Int32))

theorem dd5_readMoves_b54 : AllD (ib i5_readMoves) [(54, .iload 5, 2), (56, .bipush 15, 2), (58, .if_icmp .ge 33, 3), (61, .aload_n 1, 1), (62, .iload_n 2, 1), (63, .iload_n 3, 1), (64, .iload 5, 2), (66, .invokevirtual 112, 3), (69, .ldc2_w 110, 3), (72, .lcmp, 1), (73, .ifCond .ge 12, 3), (76, .iload 4, 2), (78, .iconst 1, 1), (79, .iload 5, 2), (81, .ishl, 1), (82, .ior, 1), (83, .istore 4, 2), (91, .aload_n 0, 1), (92, .getfield 16, 3), (95, .iload_n 2, 1), (96, .bipush 6, 2), (98, .imul, 1), (99, .iload_n 3, 1), (100, .iadd, 1), (101, .iload 4, 2), (103, .invokevirtual 102, 3), (106, .iinc 3 1, 3), (109, .goto (-69), 3)] := allD_of (by decide +kernel)
def f5_readMoves_b54_body (K40 : MM → Nat → Nat → Int32 → Int32 → Option MM) (rc : MM → Nat → Nat → Int32 → Int32 → Int32 → Int32 → Option MM) (M : MM) (a0 : Nat) (a1 : Nat) (a2 : Int32) (a3 : Int32) (a4 : Int32) (a5 : Int32) : Option MM :=
  if (15 : Int32) ≤ a5 then
    aO M a0 5 <|
    aO M (mR M a0 0) 3 <|
    cV (f3_set M (mR M a0 0) ((a2 * (6 : Int32)) + a3) a4) fun M103 =>
    K40 M103 a0 a1 a2 (a3 + (1 : Int32))
  else
    aO M a1 1 <|
    cJ (f1_edge M a1 a2 a3 a5) fun r66 M66 =>
    if (1000000000000001 : Int64) ≤ r66 then
      (f5_readMoves_b85 rc) M66 a0 a1 a2 a3 a4 a5
    else
      bW (a4 ||| ((1 : Int32) <<< (a5 &&& 31))) fun v83 =>
      (f5_readMoves_b85 rc) M66 a0 a1 a2 a3 v83 a5
def f5_readMoves_b54 (K40 : MM → Nat → Nat → Int32 → Int32 → Option MM) : MM → Nat → Nat → Int32 → Int32 → Int32 → Int32 → Option MM := LP7 (f5_readMoves_b54_body K40) FU
set_option maxRecDepth 4000 in
theorem T5_readMoves_b54 {K40 : MM → Nat → Nat → Int32 → Int32 → Option MM} (hK40 : ∀ (M : MM) (a0 : Nat) (a1 : Nat) (a2 : Int32) (a3 : Int32), X Lv i5_readMoves 40 [(0, vr a0), (1, vr a1), (2, vi a2), (3, vi a3)] [] M (K40 M a0 a1 a2 a3)) : ∀ (M : MM) (a0 : Nat) (a1 : Nat) (a2 : Int32) (a3 : Int32) (a4 : Int32) (a5 : Int32), X Lv i5_readMoves 54 [(0, vr a0), (1, vr a1), (2, vi a2), (3, vi a3), (4, vi a4), (5, vi a5)] [] M (f5_readMoves_b54 K40 M a0 a1 a2 a3 a4 a5) := by
  obtain ⟨d54, d56, d58, d61, d62, d63, d64, d66, d69, d72, d73, d76, d78, d79, d81, d82, d83, d91, d92, d95, d96, d98, d99, d100, d101, d103, d106, d109, -⟩ := dd5_readMoves_b54
  refine LP7_i (P := fun M a0 a1 a2 a3 a4 a5 o => X Lv i5_readMoves 54 [(0, vr a0), (1, vr a1), (2, vi a2), (3, vi a3), (4, vi a4), (5, vi a5)] [] M o) (fun _ _ _ _ _ _ _ => X_none) (fun rc ih M a0 a1 a2 a3 a4 a5 => ?_) FU
  unfold f5_readMoves_b54_body
  refine X_iload 5 d54 rfl ?_
  refine X_bipush k_b_15 d56 ?_
  refine X_icmp_ge (t := 91) d58 rfl (fun h58 => ?_) (fun h58 => ?_)
  · refine X_aloadn 0 d91 rfl ?_
    refine X_getR d92 fg_x5_16 ?_
    refine X_iloadn 2 d95 rfl ?_
    refine X_bipush k_b_6 d96 ?_
    refine X_imul d98 ?_
    refine X_iloadn 3 d99 rfl ?_
    refine X_iadd d100 ?_
    refine X_iload 4 d101 rfl ?_
    refine X_cVv (as := [vi ((a2 * (6 : Int32)) + a3), vi a4]) d103 cv_x5_102 ⟨by decide, by decide⟩ rfl (Nat.le_of_ble_eq_true rfl) (T3_set M (mR M a0 0) ((a2 * (6 : Int32)) + a3) a4) (fun M103 _ => ?_)
    refine X_inc (lv' := [(3, vi (a3 + (1 : Int32))), (0, vr a0), (1, vr a1), (2, vi a2), (4, vi a4), (5, vi a5)]) 3 d106 k_i_1 rfl (by decide) rfl ?_
    refine X_goto (t := 40) d109 rfl ?_
    refine X_sub [1, 2, 3, 0] rfl ?_
    exact hK40 M103 a0 a1 a2 (a3 + (1 : Int32))
  · refine X_aloadn 1 d61 rfl ?_
    refine X_iloadn 2 d62 rfl ?_
    refine X_iloadn 3 d63 rfl ?_
    refine X_iload 5 d64 rfl ?_
    refine X_cVl (as := [vi a2, vi a3, vi a5]) d66 cv_x5_112 ⟨by decide, by decide⟩ rfl (Nat.le_of_ble_eq_true rfl) (T1_edge M a1 a2 a3 a5) (fun r66 M66 _ => ?_)
    refine X_ldc2 kc_x5_110 d69 ?_
    refine X_lif_ge (t := 85) d72 d73 rfl (fun h72 => ?_) (fun h72 => ?_)
    · exact (T5_readMoves_b85 ih) M66 a0 a1 a2 a3 a4 a5
    · refine X_iload 4 d76 rfl ?_
      refine X_iconst k_i_1 d78 ?_
      refine X_iload 5 d79 rfl ?_
      refine X_ishl d81 ?_
      refine X_ior d82 ?_
      refine X_bWi fun v83 _ => ?_
      refine X_istore (lv' := [(4, vi v83), (0, vr a0), (1, vr a1), (2, vi a2), (3, vi a3), (5, vi a5)]) d83 (by decide) rfl ?_
      refine X_sub [1, 2, 3, 4, 0, 5] rfl ?_
      exact (T5_readMoves_b85 ih) M66 a0 a1 a2 a3 v83 a5

theorem dd5_readMoves_b40 : AllD (ib i5_readMoves) [(40, .iload_n 3, 1), (41, .aload_n 0, 1), (42, .getfield 66, 3), (45, .if_icmp .ge 67, 3), (48, .iconst 0, 1), (49, .istore 4, 2), (51, .iconst 0, 1), (52, .istore 5, 2), (112, .iinc 2 1, 3), (115, .goto (-108), 3)] := allD_of (by decide +kernel)
def f5_readMoves_b40_body (K7 : MM → Nat → Nat → Int32 → Option MM) (rc : MM → Nat → Nat → Int32 → Int32 → Option MM) (M : MM) (a0 : Nat) (a1 : Nat) (a2 : Int32) (a3 : Int32) : Option MM :=
  aO M a0 5 <|
  if (mI M a0 14) ≤ a3 then
    K7 M a0 a1 (a2 + (1 : Int32))
  else
    (f5_readMoves_b54 rc) M a0 a1 a2 a3 (0 : Int32) (0 : Int32)
def f5_readMoves_b40 (K7 : MM → Nat → Nat → Int32 → Option MM) : MM → Nat → Nat → Int32 → Int32 → Option MM := LP5 (f5_readMoves_b40_body K7) FU
set_option maxRecDepth 4000 in
theorem T5_readMoves_b40 {K7 : MM → Nat → Nat → Int32 → Option MM} (hK7 : ∀ (M : MM) (a0 : Nat) (a1 : Nat) (a2 : Int32), X Lv i5_readMoves 7 [(0, vr a0), (1, vr a1), (2, vi a2)] [] M (K7 M a0 a1 a2)) : ∀ (M : MM) (a0 : Nat) (a1 : Nat) (a2 : Int32) (a3 : Int32), X Lv i5_readMoves 40 [(0, vr a0), (1, vr a1), (2, vi a2), (3, vi a3)] [] M (f5_readMoves_b40 K7 M a0 a1 a2 a3) := by
  obtain ⟨d40, d41, d42, d45, d48, d49, d51, d52, d112, d115, -⟩ := dd5_readMoves_b40
  refine LP5_i (P := fun M a0 a1 a2 a3 o => X Lv i5_readMoves 40 [(0, vr a0), (1, vr a1), (2, vi a2), (3, vi a3)] [] M o) (fun _ _ _ _ _ => X_none) (fun rc ih M a0 a1 a2 a3 => ?_) FU
  unfold f5_readMoves_b40_body
  refine X_iloadn 3 d40 rfl ?_
  refine X_aloadn 0 d41 rfl ?_
  refine X_getI d42 fg_x5_66 ?_
  refine X_icmp_ge (t := 112) d45 rfl (fun h45 => ?_) (fun h45 => ?_)
  · refine X_inc (lv' := [(2, vi (a2 + (1 : Int32))), (0, vr a0), (1, vr a1), (3, vi a3)]) 2 d112 k_i_1 rfl (by decide) rfl ?_
    refine X_goto (t := 7) d115 rfl ?_
    refine X_sub [1, 2, 0] rfl ?_
    exact hK7 M a0 a1 (a2 + (1 : Int32))
  · refine X_iconst k_i_0 d48 ?_
    refine X_istore (lv' := [(4, vi (0 : Int32)), (0, vr a0), (1, vr a1), (2, vi a2), (3, vi a3)]) d49 (by decide) rfl ?_
    refine X_iconst k_i_0 d51 ?_
    refine X_istore (lv' := [(5, vi (0 : Int32)), (4, vi (0 : Int32)), (0, vr a0), (1, vr a1), (2, vi a2), (3, vi a3)]) d52 (by decide) rfl ?_
    refine X_sub [2, 3, 4, 5, 1, 0] rfl ?_
    exact (T5_readMoves_b54 ih) M a0 a1 a2 a3 (0 : Int32) (0 : Int32)

theorem dd5_readMoves_b38 : AllD (ib i5_readMoves) [(38, .iconst 0, 1), (39, .istore_n 3, 1)] := allD_of (by decide +kernel)
def f5_readMoves_b38 (K7 : MM → Nat → Nat → Int32 → Option MM) (M : MM) (a0 : Nat) (a1 : Nat) (a2 : Int32) : Option MM :=
  (f5_readMoves_b40 K7) M a0 a1 a2 (0 : Int32)
set_option maxRecDepth 4000 in
theorem T5_readMoves_b38 {K7 : MM → Nat → Nat → Int32 → Option MM} (hK7 : ∀ (M : MM) (a0 : Nat) (a1 : Nat) (a2 : Int32), X Lv i5_readMoves 7 [(0, vr a0), (1, vr a1), (2, vi a2)] [] M (K7 M a0 a1 a2)) : ∀ (M : MM) (a0 : Nat) (a1 : Nat) (a2 : Int32), X Lv i5_readMoves 38 [(0, vr a0), (1, vr a1), (2, vi a2)] [] M (f5_readMoves_b38 K7 M a0 a1 a2) := by
  obtain ⟨d38, d39, -⟩ := dd5_readMoves_b38
  intro M a0 a1 a2
  unfold f5_readMoves_b38
  refine X_iconst k_i_0 d38 ?_
  refine X_istoren (lv' := [(3, vi (0 : Int32)), (0, vr a0), (1, vr a1), (2, vi a2)]) d39 (by decide) rfl ?_
  refine X_sub [1, 2, 3, 0] rfl ?_
  exact (T5_readMoves_b40 hK7) M a0 a1 a2 (0 : Int32)

theorem dd5_readMoves_b7 : AllD (ib i5_readMoves) [(7, .iload_n 2, 1), (8, .bipush 15, 2), (10, .if_icmp .ge 108, 3), (13, .aload_n 1, 1), (14, .iconst 0, 1), (15, .iload_n 2, 1), (16, .invokevirtual 106, 3), (19, .ldc2_w 110, 3), (22, .lcmp, 1), (23, .ifCond .ge 15, 3), (26, .aload_n 0, 1), (27, .dup, 1), (28, .getfield 63, 3), (31, .iconst 1, 1), (32, .iload_n 2, 1), (33, .ishl, 1), (34, .ior, 1), (35, .putfield 63, 3), (118, .return_, 1)] := allD_of (by decide +kernel)
def f5_readMoves_b7_body (rc : MM → Nat → Nat → Int32 → Option MM) (M : MM) (a0 : Nat) (a1 : Nat) (a2 : Int32) : Option MM :=
  if (15 : Int32) ≤ a2 then
    some M
  else
    aO M a1 1 <|
    cJ (f1_left M a1 (0 : Int32) a2) fun r16 M16 =>
    if (1000000000000001 : Int64) ≤ r16 then
      (f5_readMoves_b38 rc) M16 a0 a1 a2
    else
      aO M16 a0 5 <|
      aO M16 a0 5 <|
      bM (sI M16 a0 13 ((mI M16 a0 13) ||| ((1 : Int32) <<< (a2 &&& 31)))) fun M35 =>
      (f5_readMoves_b38 rc) M35 a0 a1 a2
def f5_readMoves_b7 : MM → Nat → Nat → Int32 → Option MM := LP4 (f5_readMoves_b7_body) FU
set_option maxRecDepth 4000 in
theorem T5_readMoves_b7 : ∀ (M : MM) (a0 : Nat) (a1 : Nat) (a2 : Int32), X Lv i5_readMoves 7 [(0, vr a0), (1, vr a1), (2, vi a2)] [] M (f5_readMoves_b7 M a0 a1 a2) := by
  obtain ⟨d7, d8, d10, d13, d14, d15, d16, d19, d22, d23, d26, d27, d28, d31, d32, d33, d34, d35, d118, -⟩ := dd5_readMoves_b7
  refine LP4_i (P := fun M a0 a1 a2 o => X Lv i5_readMoves 7 [(0, vr a0), (1, vr a1), (2, vi a2)] [] M o) (fun _ _ _ _ => X_none) (fun rc ih M a0 a1 a2 => ?_) FU
  unfold f5_readMoves_b7_body
  refine X_iloadn 2 d7 rfl ?_
  refine X_bipush k_b_15 d8 ?_
  refine X_icmp_ge (t := 118) d10 rfl (fun h10 => ?_) (fun h10 => ?_)
  · exact X_vreturn d118 rfl rfl
  · refine X_aloadn 1 d13 rfl ?_
    refine X_iconst k_i_0 d14 ?_
    refine X_iloadn 2 d15 rfl ?_
    refine X_cVl (as := [vi (0 : Int32), vi a2]) d16 cv_x5_106 ⟨by decide, by decide⟩ rfl (Nat.le_of_ble_eq_true rfl) (T1_left M a1 (0 : Int32) a2) (fun r16 M16 _ => ?_)
    refine X_ldc2 kc_x5_110 d19 ?_
    refine X_lif_ge (t := 38) d22 d23 rfl (fun h22 => ?_) (fun h22 => ?_)
    · exact (T5_readMoves_b38 ih) M16 a0 a1 a2
    · refine X_aloadn 0 d26 rfl ?_
      refine X_dupr d27 ?_
      refine X_getI d28 fg_x5_63 ?_
      refine X_iconst k_i_1 d31 ?_
      refine X_iloadn 2 d32 rfl ?_
      refine X_ishl d33 ?_
      refine X_ior d34 ?_
      refine X_putI d35 fp_x5_63 ?_
      refine X_bM fun M35 _ => ?_
      exact (T5_readMoves_b38 ih) M35 a0 a1 a2

theorem dd5_readMoves : AllD (ib i5_readMoves) [(0, .aload_n 0, 1), (1, .iconst 0, 1), (2, .putfield 63, 3), (5, .iconst 0, 1), (6, .istore_n 2, 1)] := allD_of (by decide +kernel)
def f5_readMoves (M : MM) (a0 : Nat) (a1 : Nat) : Option MM :=
  aO M a0 5 <|
  bM (sI M a0 13 (0 : Int32)) fun M2 =>
  f5_readMoves_b7 M2 a0 a1 (0 : Int32)
set_option maxRecDepth 4000 in
theorem T5_readMoves (M : MM) (a0 : Nat) (a1 : Nat) : ∀ q, f5_readMoves M a0 a1 = some q → Run i5_readMoves [vr a0, vr a1] M (Lv q) := by
  obtain ⟨d0, d1, d2, d5, d6, -⟩ := dd5_readMoves
  refine Run_of_X (by decide) (Nat.le_of_ble_eq_true rfl) ?_
  show X Lv i5_readMoves 0 [(0, vr a0), (1, vr a1)] [] M _
  unfold f5_readMoves
  refine X_aloadn 0 d0 rfl ?_
  refine X_iconst k_i_0 d1 ?_
  refine X_putI d2 fp_x5_63 ?_
  refine X_bM fun M2 _ => ?_
  refine X_iconst k_i_0 d5 ?_
  refine X_istoren (lv' := [(2, vi (0 : Int32)), (0, vr a0), (1, vr a1)]) d6 (by decide) rfl ?_
  refine X_sub [1, 2, 0] rfl ?_
  exact T5_readMoves_b7 M2 a0 a1 (0 : Int32)

theorem dd5_widen : AllD (ib i5_widen) [(0, .aload_n 0, 1), (1, .aload_n 0, 1), (2, .getfield 59, 3), (5, .iconst 2, 1), (6, .imul, 1), (7, .putfield 59, 3), (10, .aload_n 0, 1), (11, .getfield 25, 3), (14, .aload_n 0, 1), (15, .getfield 59, 3), (18, .invokevirtual 123, 3), (21, .aload_n 0, 1), (22, .getfield 28, 3), (25, .aload_n 0, 1), (26, .getfield 59, 3), (29, .invokevirtual 123, 3), (32, .aload_n 0, 1), (33, .getfield 31, 3), (36, .aload_n 0, 1), (37, .getfield 59, 3), (40, .bipush 6, 2), (42, .imul, 1), (43, .invokevirtual 123, 3), (46, .aload_n 0, 1), (47, .getfield 34, 3), (50, .aload_n 0, 1), (51, .getfield 59, 3), (54, .invokevirtual 123, 3), (57, .aload_n 0, 1), (58, .getfield 37, 3), (61, .aload_n 0, 1), (62, .getfield 59, 3), (65, .invokevirtual 123, 3), (68, .aload_n 0, 1), (69, .getfield 40, 3), (72, .aload_n 0, 1), (73, .getfield 59, 3), (76, .invokevirtual 123, 3), (79, .aload_n 0, 1), (80, .getfield 43, 3), (83, .aload_n 0, 1), (84, .getfield 59, 3), (87, .invokevirtual 123, 3), (90, .aload_n 0, 1), (91, .getfield 46, 3), (94, .aload_n 0, 1), (95, .getfield 59, 3), (98, .invokevirtual 123, 3), (101, .aload_n 0, 1), (102, .getfield 52, 3), (105, .aload_n 0, 1), (106, .getfield 59, 3), (109, .invokevirtual 125, 3), (112, .aload_n 0, 1), (113, .getfield 56, 3), (116, .aload_n 0, 1), (117, .getfield 59, 3), (120, .invokevirtual 125, 3), (123, .return_, 1)] := allD_of (by decide +kernel)
def f5_widen (M : MM) (a0 : Nat) : Option MM :=
  aO M a0 5 <|
  aO M a0 5 <|
  bM (sI M a0 12 ((mI M a0 12) * (2 : Int32))) fun M7 =>
  aO M7 a0 5 <|
  aO M7 a0 5 <|
  aO M7 (mR M7 a0 2) 3 <|
  cV (f3_widen M7 (mR M7 a0 2) (mI M7 a0 12)) fun M18 =>
  aO M18 a0 5 <|
  aO M18 a0 5 <|
  aO M18 (mR M18 a0 3) 3 <|
  cV (f3_widen M18 (mR M18 a0 3) (mI M18 a0 12)) fun M29 =>
  aO M29 a0 5 <|
  aO M29 a0 5 <|
  aO M29 (mR M29 a0 4) 3 <|
  cV (f3_widen M29 (mR M29 a0 4) ((mI M29 a0 12) * (6 : Int32))) fun M43 =>
  aO M43 a0 5 <|
  aO M43 a0 5 <|
  aO M43 (mR M43 a0 5) 3 <|
  cV (f3_widen M43 (mR M43 a0 5) (mI M43 a0 12)) fun M54 =>
  aO M54 a0 5 <|
  aO M54 a0 5 <|
  aO M54 (mR M54 a0 6) 3 <|
  cV (f3_widen M54 (mR M54 a0 6) (mI M54 a0 12)) fun M65 =>
  aO M65 a0 5 <|
  aO M65 a0 5 <|
  aO M65 (mR M65 a0 7) 3 <|
  cV (f3_widen M65 (mR M65 a0 7) (mI M65 a0 12)) fun M76 =>
  aO M76 a0 5 <|
  aO M76 a0 5 <|
  aO M76 (mR M76 a0 8) 3 <|
  cV (f3_widen M76 (mR M76 a0 8) (mI M76 a0 12)) fun M87 =>
  aO M87 a0 5 <|
  aO M87 a0 5 <|
  aO M87 (mR M87 a0 9) 3 <|
  cV (f3_widen M87 (mR M87 a0 9) (mI M87 a0 12)) fun M98 =>
  aO M98 a0 5 <|
  aO M98 a0 5 <|
  aO M98 (mR M98 a0 10) 4 <|
  cV (f4_widen M98 (mR M98 a0 10) (mI M98 a0 12)) fun M109 =>
  aO M109 a0 5 <|
  aO M109 a0 5 <|
  aO M109 (mR M109 a0 11) 4 <|
  cV (f4_widen M109 (mR M109 a0 11) (mI M109 a0 12)) fun M120 =>
  some M120
set_option maxRecDepth 4000 in
theorem T5_widen (M : MM) (a0 : Nat) : ∀ q, f5_widen M a0 = some q → Run i5_widen [vr a0] M (Lv q) := by
  obtain ⟨d0, d1, d2, d5, d6, d7, d10, d11, d14, d15, d18, d21, d22, d25, d26, d29, d32, d33, d36, d37, d40, d42, d43, d46, d47, d50, d51, d54, d57, d58, d61, d62, d65, d68, d69, d72, d73, d76, d79, d80, d83, d84, d87, d90, d91, d94, d95, d98, d101, d102, d105, d106, d109, d112, d113, d116, d117, d120, d123, -⟩ := dd5_widen
  refine Run_of_X (by decide) (Nat.le_of_ble_eq_true rfl) ?_
  show X Lv i5_widen 0 [(0, vr a0)] [] M _
  unfold f5_widen
  refine X_aloadn 0 d0 rfl ?_
  refine X_aloadn 0 d1 rfl ?_
  refine X_getI d2 fg_x5_59 ?_
  refine X_iconst k_i_2 d5 ?_
  refine X_imul d6 ?_
  refine X_putI d7 fp_x5_59 ?_
  refine X_bM fun M7 _ => ?_
  refine X_aloadn 0 d10 rfl ?_
  refine X_getR d11 fg_x5_25 ?_
  refine X_aloadn 0 d14 rfl ?_
  refine X_getI d15 fg_x5_59 ?_
  refine X_cVv (as := [vi (mI M7 a0 12)]) d18 cv_x5_123 ⟨by decide, by decide⟩ rfl (Nat.le_of_ble_eq_true rfl) (T3_widen M7 (mR M7 a0 2) (mI M7 a0 12)) (fun M18 _ => ?_)
  refine X_aloadn 0 d21 rfl ?_
  refine X_getR d22 fg_x5_28 ?_
  refine X_aloadn 0 d25 rfl ?_
  refine X_getI d26 fg_x5_59 ?_
  refine X_cVv (as := [vi (mI M18 a0 12)]) d29 cv_x5_123 ⟨by decide, by decide⟩ rfl (Nat.le_of_ble_eq_true rfl) (T3_widen M18 (mR M18 a0 3) (mI M18 a0 12)) (fun M29 _ => ?_)
  refine X_aloadn 0 d32 rfl ?_
  refine X_getR d33 fg_x5_31 ?_
  refine X_aloadn 0 d36 rfl ?_
  refine X_getI d37 fg_x5_59 ?_
  refine X_bipush k_b_6 d40 ?_
  refine X_imul d42 ?_
  refine X_cVv (as := [vi ((mI M29 a0 12) * (6 : Int32))]) d43 cv_x5_123 ⟨by decide, by decide⟩ rfl (Nat.le_of_ble_eq_true rfl) (T3_widen M29 (mR M29 a0 4) ((mI M29 a0 12) * (6 : Int32))) (fun M43 _ => ?_)
  refine X_aloadn 0 d46 rfl ?_
  refine X_getR d47 fg_x5_34 ?_
  refine X_aloadn 0 d50 rfl ?_
  refine X_getI d51 fg_x5_59 ?_
  refine X_cVv (as := [vi (mI M43 a0 12)]) d54 cv_x5_123 ⟨by decide, by decide⟩ rfl (Nat.le_of_ble_eq_true rfl) (T3_widen M43 (mR M43 a0 5) (mI M43 a0 12)) (fun M54 _ => ?_)
  refine X_aloadn 0 d57 rfl ?_
  refine X_getR d58 fg_x5_37 ?_
  refine X_aloadn 0 d61 rfl ?_
  refine X_getI d62 fg_x5_59 ?_
  refine X_cVv (as := [vi (mI M54 a0 12)]) d65 cv_x5_123 ⟨by decide, by decide⟩ rfl (Nat.le_of_ble_eq_true rfl) (T3_widen M54 (mR M54 a0 6) (mI M54 a0 12)) (fun M65 _ => ?_)
  refine X_aloadn 0 d68 rfl ?_
  refine X_getR d69 fg_x5_40 ?_
  refine X_aloadn 0 d72 rfl ?_
  refine X_getI d73 fg_x5_59 ?_
  refine X_cVv (as := [vi (mI M65 a0 12)]) d76 cv_x5_123 ⟨by decide, by decide⟩ rfl (Nat.le_of_ble_eq_true rfl) (T3_widen M65 (mR M65 a0 7) (mI M65 a0 12)) (fun M76 _ => ?_)
  refine X_aloadn 0 d79 rfl ?_
  refine X_getR d80 fg_x5_43 ?_
  refine X_aloadn 0 d83 rfl ?_
  refine X_getI d84 fg_x5_59 ?_
  refine X_cVv (as := [vi (mI M76 a0 12)]) d87 cv_x5_123 ⟨by decide, by decide⟩ rfl (Nat.le_of_ble_eq_true rfl) (T3_widen M76 (mR M76 a0 8) (mI M76 a0 12)) (fun M87 _ => ?_)
  refine X_aloadn 0 d90 rfl ?_
  refine X_getR d91 fg_x5_46 ?_
  refine X_aloadn 0 d94 rfl ?_
  refine X_getI d95 fg_x5_59 ?_
  refine X_cVv (as := [vi (mI M87 a0 12)]) d98 cv_x5_123 ⟨by decide, by decide⟩ rfl (Nat.le_of_ble_eq_true rfl) (T3_widen M87 (mR M87 a0 9) (mI M87 a0 12)) (fun M98 _ => ?_)
  refine X_aloadn 0 d101 rfl ?_
  refine X_getR d102 fg_x5_52 ?_
  refine X_aloadn 0 d105 rfl ?_
  refine X_getI d106 fg_x5_59 ?_
  refine X_cVv (as := [vi (mI M98 a0 12)]) d109 cv_x5_125 ⟨by decide, by decide⟩ rfl (Nat.le_of_ble_eq_true rfl) (T4_widen M98 (mR M98 a0 10) (mI M98 a0 12)) (fun M109 _ => ?_)
  refine X_aloadn 0 d112 rfl ?_
  refine X_getR d113 fg_x5_56 ?_
  refine X_aloadn 0 d116 rfl ?_
  refine X_getI d117 fg_x5_59 ?_
  refine X_cVv (as := [vi (mI M109 a0 12)]) d120 cv_x5_125 ⟨by decide, by decide⟩ rfl (Nat.le_of_ble_eq_true rfl) (T4_widen M109 (mR M109 a0 11) (mI M109 a0 12)) (fun M120 _ => ?_)
  exact X_vreturn d123 rfl rfl

