/-! WHERE THE OBJECTS LIE -/
def KKl : List (Nat × Nat) := [(1000, 0), (14, 15), (12, 7), (0, 800), (10, 8), (7, 1), (1, 5), (7, 1), (1, 6), (6, 1), (0, 98), (6, 1), (0, 24), (10, 8), (7, 1), (1, 5), (7, 1), (1, 6), (6, 1), (0, 98), (6, 1), (0, 24), (11, 4), (9, 4), (6, 1), (0, 40), (9, 4), (6, 1), (0, 40), (3, 3), (6, 1), (0, 516), (4, 2), (7, 1), (1, 1350), (7, 1), (1, 2115), (4, 2), (7, 1), (1, 1350), (7, 1), (1, 615), (13, 4), (9, 4), (6, 1), (0, 140), (6, 1), (0, 100), (5, 9), (6, 1), (0, 30), (6, 1), (0, 30), (7, 1), (1, 30), (7, 1), (1, 150), (7, 1), (1, 5), (7, 1), (1, 5), (8, 18), (6, 1), (0, 90), (6, 1), (0, 256), (6, 1), (0, 64), (6, 1), (0, 64), (6, 1), (0, 384), (6, 1), (0, 64), (6, 1), (0, 64), (6, 1), (0, 64), (6, 1), (0, 64), (6, 1), (0, 64), (7, 1), (1, 64), (7, 1), (1, 64), (15, 55), (0, 8), (0, 24), (0, 196), (0, 48), (0, 800), (0, 40), (0, 40), (0, 528), (0, 4), (0, 4), (0, 4), (0, 12), (1, 630), (1, 630), (1, 4200), (0, 200), (0, 100), (0, 2), (0, 30), (2, 900), (2, 205), (1, 30), (1, 150), (1, 205), (0, 8192), (0, 49152), (0, 8192), (0, 8192), (0, 8192), (0, 8192), (1, 16384), (0, 8192)]
def KK (a : Nat) : Nat × Nat := KKl.getD a (1000, 0)
def RRl : List (Nat × Nat × Nat) := [(1, 0, 2), (1, 1, 22), (1, 2, 23), (1, 3, 26), (1, 4, 29), (1, 5, 32), (1, 6, 37), (1, 7, 42), (1, 8, 48), (1, 9, 61), (2, 0, 3), (4, 0, 5), (4, 1, 7), (4, 2, 9), (4, 3, 11), (5, 0, 6), (7, 0, 8), (9, 0, 10), (11, 0, 12), (13, 0, 14), (13, 1, 16), (13, 2, 18), (13, 3, 20), (14, 0, 15), (16, 0, 17), (18, 0, 19), (20, 0, 21), (22, 0, 2), (23, 1, 24), (24, 0, 25), (26, 1, 27), (27, 0, 28), (29, 0, 30), (30, 0, 31), (32, 0, 33), (32, 1, 35), (33, 0, 34), (35, 0, 36), (37, 0, 38), (37, 1, 40), (38, 0, 39), (40, 0, 41), (42, 0, 43), (42, 1, 46), (43, 1, 44), (44, 0, 45), (46, 0, 47), (48, 0, 49), (48, 1, 51), (48, 2, 53), (48, 3, 55), (48, 4, 57), (48, 5, 59), (48, 6, 32), (49, 0, 50), (51, 0, 52), (53, 0, 54), (55, 0, 56), (57, 0, 58), (59, 0, 60), (61, 0, 62), (61, 1, 64), (61, 2, 66), (61, 3, 68), (61, 4, 70), (61, 7, 76), (61, 8, 78), (61, 9, 80), (61, 10, 82), (61, 11, 84), (62, 0, 63), (64, 0, 65), (86, 1, 87), (86, 2, 88), (86, 3, 89), (86, 4, 90), (86, 6, 91), (86, 17, 92), (86, 18, 93), (86, 22, 94), (86, 24, 95), (86, 25, 96), (86, 26, 97), (86, 27, 98), (86, 28, 99), (86, 29, 100), (86, 32, 101), (86, 33, 102), (86, 34, 103), (86, 35, 104), (86, 37, 105), (86, 38, 106), (86, 39, 107), (86, 40, 108), (86, 41, 109), (86, 42, 110), (86, 43, 111), (86, 44, 112), (86, 45, 113), (86, 46, 114), (86, 50, 115), (86, 51, 116), (86, 53, 117), (86, 54, 118)]
def Wl (M : MM) : Prop := (∀ a, a < 119 → mK M a = KK a) ∧ (∀ q ∈ RRl, mR M q.1 q.2.1 = q.2.2)
theorem Wl_uI (M : MM) (a : Nat) (r : Nat → Int32) : Wl (uI M a r) = Wl M := rfl
theorem Wl_uJ (M : MM) (a : Nat) (r : Nat → Int64) : Wl (uJ M a r) = Wl M := rfl
theorem Wl.sm {Is Js : List Nat} {M M' : MM} (h : Wl M) (s : Sm Is Js M M') : Wl M' := by
  unfold Wl at h ⊢
  rw [s.k, s.r]
  exact h
section WL
variable {β : Type} {M : MM} {o : Option β}
theorem aO_W (h : Wl M) {a ci : Nat} (d : (decide (a < 119) && decide ((KK a).1 = ci + 3)) = true) : aO M a ci o = o := by
  rw [Bool.and_eq_true, decide_eq_true_eq, decide_eq_true_eq] at d
  exact aO_e (by rw [h.1 a d.1, d.2])
theorem rW (h : Wl M) {a k v : Nat} (d : RRl.elem (a, k, v) = true) : mR M a k = v := h.2 (a, k, v) (List.mem_of_elem_eq_true d)
theorem aA_W (h : Wl M) {a kd n i : Nat} (d : (decide (a < 119) && decide (KK a = (kd, n))) = true) (hi : i < n) (hn : i < 2 ^ 31) : aA M a kd (nI i) o = o := by
  rw [Bool.and_eq_true, decide_eq_true_eq, decide_eq_true_eq] at d
  have e := h.1 a d.1
  exact aA_e (by rw [e, d.2]) (by rw [e, d.2]; exact hi) hn
theorem aL_W (h : Wl M) {a kd n : Nat} (d : (decide (a < 119) && decide (KK a = (kd, n))) = true) : aL M a kd o = o := by
  rw [Bool.and_eq_true, decide_eq_true_eq, decide_eq_true_eq] at d
  exact aL_e (by rw [h.1 a d.1, d.2])
theorem k_1 (h : Wl M) : mK M 1 = (14, 15) := h.1 1 (by decide)
theorem aO_1 (h : Wl M) : aO M 1 11 o = o := aO_W h rfl
theorem k_2 (h : Wl M) : mK M 2 = (12, 7) := h.1 2 (by decide)
theorem aO_2 (h : Wl M) : aO M 2 9 o = o := aO_W h rfl
theorem k_3 (h : Wl M) : mK M 3 = (0, 800) := h.1 3 (by decide)
theorem aA_3 (h : Wl M) {i : Nat} (hi : i < 800) : aA M 3 0 (nI i) o = o := aA_W h rfl hi (by omega)
theorem k_4 (h : Wl M) : mK M 4 = (10, 8) := h.1 4 (by decide)
theorem aO_4 (h : Wl M) : aO M 4 7 o = o := aO_W h rfl
theorem k_5 (h : Wl M) : mK M 5 = (7, 1) := h.1 5 (by decide)
theorem aO_5 (h : Wl M) : aO M 5 4 o = o := aO_W h rfl
theorem k_6 (h : Wl M) : mK M 6 = (1, 5) := h.1 6 (by decide)
theorem aA_6 (h : Wl M) {i : Nat} (hi : i < 5) : aA M 6 1 (nI i) o = o := aA_W h rfl hi (by omega)
theorem k_7 (h : Wl M) : mK M 7 = (7, 1) := h.1 7 (by decide)
theorem aO_7 (h : Wl M) : aO M 7 4 o = o := aO_W h rfl
theorem k_8 (h : Wl M) : mK M 8 = (1, 6) := h.1 8 (by decide)
theorem aA_8 (h : Wl M) {i : Nat} (hi : i < 6) : aA M 8 1 (nI i) o = o := aA_W h rfl hi (by omega)
theorem k_9 (h : Wl M) : mK M 9 = (6, 1) := h.1 9 (by decide)
theorem aO_9 (h : Wl M) : aO M 9 3 o = o := aO_W h rfl
theorem k_10 (h : Wl M) : mK M 10 = (0, 98) := h.1 10 (by decide)
theorem aA_10 (h : Wl M) {i : Nat} (hi : i < 98) : aA M 10 0 (nI i) o = o := aA_W h rfl hi (by omega)
theorem k_11 (h : Wl M) : mK M 11 = (6, 1) := h.1 11 (by decide)
theorem aO_11 (h : Wl M) : aO M 11 3 o = o := aO_W h rfl
theorem k_12 (h : Wl M) : mK M 12 = (0, 24) := h.1 12 (by decide)
theorem aA_12 (h : Wl M) {i : Nat} (hi : i < 24) : aA M 12 0 (nI i) o = o := aA_W h rfl hi (by omega)
theorem k_13 (h : Wl M) : mK M 13 = (10, 8) := h.1 13 (by decide)
theorem aO_13 (h : Wl M) : aO M 13 7 o = o := aO_W h rfl
theorem k_14 (h : Wl M) : mK M 14 = (7, 1) := h.1 14 (by decide)
theorem aO_14 (h : Wl M) : aO M 14 4 o = o := aO_W h rfl
theorem k_15 (h : Wl M) : mK M 15 = (1, 5) := h.1 15 (by decide)
theorem aA_15 (h : Wl M) {i : Nat} (hi : i < 5) : aA M 15 1 (nI i) o = o := aA_W h rfl hi (by omega)
theorem k_16 (h : Wl M) : mK M 16 = (7, 1) := h.1 16 (by decide)
theorem aO_16 (h : Wl M) : aO M 16 4 o = o := aO_W h rfl
theorem k_17 (h : Wl M) : mK M 17 = (1, 6) := h.1 17 (by decide)
theorem aA_17 (h : Wl M) {i : Nat} (hi : i < 6) : aA M 17 1 (nI i) o = o := aA_W h rfl hi (by omega)
theorem k_18 (h : Wl M) : mK M 18 = (6, 1) := h.1 18 (by decide)
theorem aO_18 (h : Wl M) : aO M 18 3 o = o := aO_W h rfl
theorem k_19 (h : Wl M) : mK M 19 = (0, 98) := h.1 19 (by decide)
theorem aA_19 (h : Wl M) {i : Nat} (hi : i < 98) : aA M 19 0 (nI i) o = o := aA_W h rfl hi (by omega)
theorem k_20 (h : Wl M) : mK M 20 = (6, 1) := h.1 20 (by decide)
theorem aO_20 (h : Wl M) : aO M 20 3 o = o := aO_W h rfl
theorem k_21 (h : Wl M) : mK M 21 = (0, 24) := h.1 21 (by decide)
theorem aA_21 (h : Wl M) {i : Nat} (hi : i < 24) : aA M 21 0 (nI i) o = o := aA_W h rfl hi (by omega)
theorem k_22 (h : Wl M) : mK M 22 = (11, 4) := h.1 22 (by decide)
theorem aO_22 (h : Wl M) : aO M 22 8 o = o := aO_W h rfl
theorem k_23 (h : Wl M) : mK M 23 = (9, 4) := h.1 23 (by decide)
theorem aO_23 (h : Wl M) : aO M 23 6 o = o := aO_W h rfl
theorem k_24 (h : Wl M) : mK M 24 = (6, 1) := h.1 24 (by decide)
theorem aO_24 (h : Wl M) : aO M 24 3 o = o := aO_W h rfl
theorem k_25 (h : Wl M) : mK M 25 = (0, 40) := h.1 25 (by decide)
theorem aA_25 (h : Wl M) {i : Nat} (hi : i < 40) : aA M 25 0 (nI i) o = o := aA_W h rfl hi (by omega)
theorem k_26 (h : Wl M) : mK M 26 = (9, 4) := h.1 26 (by decide)
theorem aO_26 (h : Wl M) : aO M 26 6 o = o := aO_W h rfl
theorem k_27 (h : Wl M) : mK M 27 = (6, 1) := h.1 27 (by decide)
theorem aO_27 (h : Wl M) : aO M 27 3 o = o := aO_W h rfl
theorem k_28 (h : Wl M) : mK M 28 = (0, 40) := h.1 28 (by decide)
theorem aA_28 (h : Wl M) {i : Nat} (hi : i < 40) : aA M 28 0 (nI i) o = o := aA_W h rfl hi (by omega)
theorem k_29 (h : Wl M) : mK M 29 = (3, 3) := h.1 29 (by decide)
theorem aO_29 (h : Wl M) : aO M 29 0 o = o := aO_W h rfl
theorem k_30 (h : Wl M) : mK M 30 = (6, 1) := h.1 30 (by decide)
theorem aO_30 (h : Wl M) : aO M 30 3 o = o := aO_W h rfl
theorem k_31 (h : Wl M) : mK M 31 = (0, 516) := h.1 31 (by decide)
theorem aA_31 (h : Wl M) {i : Nat} (hi : i < 516) : aA M 31 0 (nI i) o = o := aA_W h rfl hi (by omega)
theorem k_32 (h : Wl M) : mK M 32 = (4, 2) := h.1 32 (by decide)
theorem aO_32 (h : Wl M) : aO M 32 1 o = o := aO_W h rfl
theorem k_33 (h : Wl M) : mK M 33 = (7, 1) := h.1 33 (by decide)
theorem aO_33 (h : Wl M) : aO M 33 4 o = o := aO_W h rfl
theorem k_34 (h : Wl M) : mK M 34 = (1, 1350) := h.1 34 (by decide)
theorem aA_34 (h : Wl M) {i : Nat} (hi : i < 1350) : aA M 34 1 (nI i) o = o := aA_W h rfl hi (by omega)
theorem k_35 (h : Wl M) : mK M 35 = (7, 1) := h.1 35 (by decide)
theorem aO_35 (h : Wl M) : aO M 35 4 o = o := aO_W h rfl
theorem k_36 (h : Wl M) : mK M 36 = (1, 2115) := h.1 36 (by decide)
theorem aA_36 (h : Wl M) {i : Nat} (hi : i < 2115) : aA M 36 1 (nI i) o = o := aA_W h rfl hi (by omega)
theorem k_37 (h : Wl M) : mK M 37 = (4, 2) := h.1 37 (by decide)
theorem aO_37 (h : Wl M) : aO M 37 1 o = o := aO_W h rfl
theorem k_38 (h : Wl M) : mK M 38 = (7, 1) := h.1 38 (by decide)
theorem aO_38 (h : Wl M) : aO M 38 4 o = o := aO_W h rfl
theorem k_39 (h : Wl M) : mK M 39 = (1, 1350) := h.1 39 (by decide)
theorem aA_39 (h : Wl M) {i : Nat} (hi : i < 1350) : aA M 39 1 (nI i) o = o := aA_W h rfl hi (by omega)
theorem k_40 (h : Wl M) : mK M 40 = (7, 1) := h.1 40 (by decide)
theorem aO_40 (h : Wl M) : aO M 40 4 o = o := aO_W h rfl
theorem k_41 (h : Wl M) : mK M 41 = (1, 615) := h.1 41 (by decide)
theorem aA_41 (h : Wl M) {i : Nat} (hi : i < 615) : aA M 41 1 (nI i) o = o := aA_W h rfl hi (by omega)
theorem k_42 (h : Wl M) : mK M 42 = (13, 4) := h.1 42 (by decide)
theorem aO_42 (h : Wl M) : aO M 42 10 o = o := aO_W h rfl
theorem k_43 (h : Wl M) : mK M 43 = (9, 4) := h.1 43 (by decide)
theorem aO_43 (h : Wl M) : aO M 43 6 o = o := aO_W h rfl
theorem k_44 (h : Wl M) : mK M 44 = (6, 1) := h.1 44 (by decide)
theorem aO_44 (h : Wl M) : aO M 44 3 o = o := aO_W h rfl
theorem k_45 (h : Wl M) : mK M 45 = (0, 140) := h.1 45 (by decide)
theorem aA_45 (h : Wl M) {i : Nat} (hi : i < 140) : aA M 45 0 (nI i) o = o := aA_W h rfl hi (by omega)
theorem k_46 (h : Wl M) : mK M 46 = (6, 1) := h.1 46 (by decide)
theorem aO_46 (h : Wl M) : aO M 46 3 o = o := aO_W h rfl
theorem k_47 (h : Wl M) : mK M 47 = (0, 100) := h.1 47 (by decide)
theorem aA_47 (h : Wl M) {i : Nat} (hi : i < 100) : aA M 47 0 (nI i) o = o := aA_W h rfl hi (by omega)
theorem k_48 (h : Wl M) : mK M 48 = (5, 9) := h.1 48 (by decide)
theorem aO_48 (h : Wl M) : aO M 48 2 o = o := aO_W h rfl
theorem k_49 (h : Wl M) : mK M 49 = (6, 1) := h.1 49 (by decide)
theorem aO_49 (h : Wl M) : aO M 49 3 o = o := aO_W h rfl
theorem k_50 (h : Wl M) : mK M 50 = (0, 30) := h.1 50 (by decide)
theorem aA_50 (h : Wl M) {i : Nat} (hi : i < 30) : aA M 50 0 (nI i) o = o := aA_W h rfl hi (by omega)
theorem k_51 (h : Wl M) : mK M 51 = (6, 1) := h.1 51 (by decide)
theorem aO_51 (h : Wl M) : aO M 51 3 o = o := aO_W h rfl
theorem k_52 (h : Wl M) : mK M 52 = (0, 30) := h.1 52 (by decide)
theorem aA_52 (h : Wl M) {i : Nat} (hi : i < 30) : aA M 52 0 (nI i) o = o := aA_W h rfl hi (by omega)
theorem k_53 (h : Wl M) : mK M 53 = (7, 1) := h.1 53 (by decide)
theorem aO_53 (h : Wl M) : aO M 53 4 o = o := aO_W h rfl
theorem k_54 (h : Wl M) : mK M 54 = (1, 30) := h.1 54 (by decide)
theorem aA_54 (h : Wl M) {i : Nat} (hi : i < 30) : aA M 54 1 (nI i) o = o := aA_W h rfl hi (by omega)
theorem k_55 (h : Wl M) : mK M 55 = (7, 1) := h.1 55 (by decide)
theorem aO_55 (h : Wl M) : aO M 55 4 o = o := aO_W h rfl
theorem k_56 (h : Wl M) : mK M 56 = (1, 150) := h.1 56 (by decide)
theorem aA_56 (h : Wl M) {i : Nat} (hi : i < 150) : aA M 56 1 (nI i) o = o := aA_W h rfl hi (by omega)
theorem k_57 (h : Wl M) : mK M 57 = (7, 1) := h.1 57 (by decide)
theorem aO_57 (h : Wl M) : aO M 57 4 o = o := aO_W h rfl
theorem k_58 (h : Wl M) : mK M 58 = (1, 5) := h.1 58 (by decide)
theorem aA_58 (h : Wl M) {i : Nat} (hi : i < 5) : aA M 58 1 (nI i) o = o := aA_W h rfl hi (by omega)
theorem k_59 (h : Wl M) : mK M 59 = (7, 1) := h.1 59 (by decide)
theorem aO_59 (h : Wl M) : aO M 59 4 o = o := aO_W h rfl
theorem k_60 (h : Wl M) : mK M 60 = (1, 5) := h.1 60 (by decide)
theorem aA_60 (h : Wl M) {i : Nat} (hi : i < 5) : aA M 60 1 (nI i) o = o := aA_W h rfl hi (by omega)
theorem k_61 (h : Wl M) : mK M 61 = (8, 18) := h.1 61 (by decide)
theorem aO_61 (h : Wl M) : aO M 61 5 o = o := aO_W h rfl
theorem k_62 (h : Wl M) : mK M 62 = (6, 1) := h.1 62 (by decide)
theorem aO_62 (h : Wl M) : aO M 62 3 o = o := aO_W h rfl
theorem k_63 (h : Wl M) : mK M 63 = (0, 90) := h.1 63 (by decide)
theorem aA_63 (h : Wl M) {i : Nat} (hi : i < 90) : aA M 63 0 (nI i) o = o := aA_W h rfl hi (by omega)
theorem k_64 (h : Wl M) : mK M 64 = (6, 1) := h.1 64 (by decide)
theorem aO_64 (h : Wl M) : aO M 64 3 o = o := aO_W h rfl
theorem k_65 (h : Wl M) : mK M 65 = (0, 256) := h.1 65 (by decide)
theorem aA_65 (h : Wl M) {i : Nat} (hi : i < 256) : aA M 65 0 (nI i) o = o := aA_W h rfl hi (by omega)
theorem k_66 (h : Wl M) : mK M 66 = (6, 1) := h.1 66 (by decide)
theorem aO_66 (h : Wl M) : aO M 66 3 o = o := aO_W h rfl
theorem k_67 (h : Wl M) : mK M 67 = (0, 64) := h.1 67 (by decide)
theorem aA_67 (h : Wl M) {i : Nat} (hi : i < 64) : aA M 67 0 (nI i) o = o := aA_W h rfl hi (by omega)
theorem k_68 (h : Wl M) : mK M 68 = (6, 1) := h.1 68 (by decide)
theorem aO_68 (h : Wl M) : aO M 68 3 o = o := aO_W h rfl
theorem k_69 (h : Wl M) : mK M 69 = (0, 64) := h.1 69 (by decide)
theorem aA_69 (h : Wl M) {i : Nat} (hi : i < 64) : aA M 69 0 (nI i) o = o := aA_W h rfl hi (by omega)
theorem k_70 (h : Wl M) : mK M 70 = (6, 1) := h.1 70 (by decide)
theorem aO_70 (h : Wl M) : aO M 70 3 o = o := aO_W h rfl
theorem k_71 (h : Wl M) : mK M 71 = (0, 384) := h.1 71 (by decide)
theorem aA_71 (h : Wl M) {i : Nat} (hi : i < 384) : aA M 71 0 (nI i) o = o := aA_W h rfl hi (by omega)
theorem k_72 (h : Wl M) : mK M 72 = (6, 1) := h.1 72 (by decide)
theorem aO_72 (h : Wl M) : aO M 72 3 o = o := aO_W h rfl
theorem k_73 (h : Wl M) : mK M 73 = (0, 64) := h.1 73 (by decide)
theorem aA_73 (h : Wl M) {i : Nat} (hi : i < 64) : aA M 73 0 (nI i) o = o := aA_W h rfl hi (by omega)
theorem k_74 (h : Wl M) : mK M 74 = (6, 1) := h.1 74 (by decide)
theorem aO_74 (h : Wl M) : aO M 74 3 o = o := aO_W h rfl
theorem k_75 (h : Wl M) : mK M 75 = (0, 64) := h.1 75 (by decide)
theorem aA_75 (h : Wl M) {i : Nat} (hi : i < 64) : aA M 75 0 (nI i) o = o := aA_W h rfl hi (by omega)
theorem k_76 (h : Wl M) : mK M 76 = (6, 1) := h.1 76 (by decide)
theorem aO_76 (h : Wl M) : aO M 76 3 o = o := aO_W h rfl
theorem k_77 (h : Wl M) : mK M 77 = (0, 64) := h.1 77 (by decide)
theorem aA_77 (h : Wl M) {i : Nat} (hi : i < 64) : aA M 77 0 (nI i) o = o := aA_W h rfl hi (by omega)
theorem k_78 (h : Wl M) : mK M 78 = (6, 1) := h.1 78 (by decide)
theorem aO_78 (h : Wl M) : aO M 78 3 o = o := aO_W h rfl
theorem k_79 (h : Wl M) : mK M 79 = (0, 64) := h.1 79 (by decide)
theorem aA_79 (h : Wl M) {i : Nat} (hi : i < 64) : aA M 79 0 (nI i) o = o := aA_W h rfl hi (by omega)
theorem k_80 (h : Wl M) : mK M 80 = (6, 1) := h.1 80 (by decide)
theorem aO_80 (h : Wl M) : aO M 80 3 o = o := aO_W h rfl
theorem k_81 (h : Wl M) : mK M 81 = (0, 64) := h.1 81 (by decide)
theorem aA_81 (h : Wl M) {i : Nat} (hi : i < 64) : aA M 81 0 (nI i) o = o := aA_W h rfl hi (by omega)
theorem k_82 (h : Wl M) : mK M 82 = (7, 1) := h.1 82 (by decide)
theorem aO_82 (h : Wl M) : aO M 82 4 o = o := aO_W h rfl
theorem k_83 (h : Wl M) : mK M 83 = (1, 64) := h.1 83 (by decide)
theorem aA_83 (h : Wl M) {i : Nat} (hi : i < 64) : aA M 83 1 (nI i) o = o := aA_W h rfl hi (by omega)
theorem k_84 (h : Wl M) : mK M 84 = (7, 1) := h.1 84 (by decide)
theorem aO_84 (h : Wl M) : aO M 84 4 o = o := aO_W h rfl
theorem k_85 (h : Wl M) : mK M 85 = (1, 64) := h.1 85 (by decide)
theorem aA_85 (h : Wl M) {i : Nat} (hi : i < 64) : aA M 85 1 (nI i) o = o := aA_W h rfl hi (by omega)
theorem k_86 (h : Wl M) : mK M 86 = (15, 55) := h.1 86 (by decide)
theorem aO_86 (h : Wl M) : aO M 86 12 o = o := aO_W h rfl
theorem k_87 (h : Wl M) : mK M 87 = (0, 8) := h.1 87 (by decide)
theorem aA_87 (h : Wl M) {i : Nat} (hi : i < 8) : aA M 87 0 (nI i) o = o := aA_W h rfl hi (by omega)
theorem k_88 (h : Wl M) : mK M 88 = (0, 24) := h.1 88 (by decide)
theorem aA_88 (h : Wl M) {i : Nat} (hi : i < 24) : aA M 88 0 (nI i) o = o := aA_W h rfl hi (by omega)
theorem k_89 (h : Wl M) : mK M 89 = (0, 196) := h.1 89 (by decide)
theorem aA_89 (h : Wl M) {i : Nat} (hi : i < 196) : aA M 89 0 (nI i) o = o := aA_W h rfl hi (by omega)
theorem k_90 (h : Wl M) : mK M 90 = (0, 48) := h.1 90 (by decide)
theorem aA_90 (h : Wl M) {i : Nat} (hi : i < 48) : aA M 90 0 (nI i) o = o := aA_W h rfl hi (by omega)
theorem k_91 (h : Wl M) : mK M 91 = (0, 800) := h.1 91 (by decide)
theorem aA_91 (h : Wl M) {i : Nat} (hi : i < 800) : aA M 91 0 (nI i) o = o := aA_W h rfl hi (by omega)
theorem k_92 (h : Wl M) : mK M 92 = (0, 40) := h.1 92 (by decide)
theorem aA_92 (h : Wl M) {i : Nat} (hi : i < 40) : aA M 92 0 (nI i) o = o := aA_W h rfl hi (by omega)
theorem k_93 (h : Wl M) : mK M 93 = (0, 40) := h.1 93 (by decide)
theorem aA_93 (h : Wl M) {i : Nat} (hi : i < 40) : aA M 93 0 (nI i) o = o := aA_W h rfl hi (by omega)
theorem k_94 (h : Wl M) : mK M 94 = (0, 528) := h.1 94 (by decide)
theorem aA_94 (h : Wl M) {i : Nat} (hi : i < 528) : aA M 94 0 (nI i) o = o := aA_W h rfl hi (by omega)
theorem k_95 (h : Wl M) : mK M 95 = (0, 4) := h.1 95 (by decide)
theorem aA_95 (h : Wl M) {i : Nat} (hi : i < 4) : aA M 95 0 (nI i) o = o := aA_W h rfl hi (by omega)
theorem k_96 (h : Wl M) : mK M 96 = (0, 4) := h.1 96 (by decide)
theorem aA_96 (h : Wl M) {i : Nat} (hi : i < 4) : aA M 96 0 (nI i) o = o := aA_W h rfl hi (by omega)
theorem k_97 (h : Wl M) : mK M 97 = (0, 4) := h.1 97 (by decide)
theorem aA_97 (h : Wl M) {i : Nat} (hi : i < 4) : aA M 97 0 (nI i) o = o := aA_W h rfl hi (by omega)
theorem k_98 (h : Wl M) : mK M 98 = (0, 12) := h.1 98 (by decide)
theorem aA_98 (h : Wl M) {i : Nat} (hi : i < 12) : aA M 98 0 (nI i) o = o := aA_W h rfl hi (by omega)
theorem k_99 (h : Wl M) : mK M 99 = (1, 630) := h.1 99 (by decide)
theorem aA_99 (h : Wl M) {i : Nat} (hi : i < 630) : aA M 99 1 (nI i) o = o := aA_W h rfl hi (by omega)
theorem k_100 (h : Wl M) : mK M 100 = (1, 630) := h.1 100 (by decide)
theorem aA_100 (h : Wl M) {i : Nat} (hi : i < 630) : aA M 100 1 (nI i) o = o := aA_W h rfl hi (by omega)
theorem k_101 (h : Wl M) : mK M 101 = (1, 4200) := h.1 101 (by decide)
theorem aA_101 (h : Wl M) {i : Nat} (hi : i < 4200) : aA M 101 1 (nI i) o = o := aA_W h rfl hi (by omega)
theorem k_102 (h : Wl M) : mK M 102 = (0, 200) := h.1 102 (by decide)
theorem aA_102 (h : Wl M) {i : Nat} (hi : i < 200) : aA M 102 0 (nI i) o = o := aA_W h rfl hi (by omega)
theorem k_103 (h : Wl M) : mK M 103 = (0, 100) := h.1 103 (by decide)
theorem aA_103 (h : Wl M) {i : Nat} (hi : i < 100) : aA M 103 0 (nI i) o = o := aA_W h rfl hi (by omega)
theorem k_104 (h : Wl M) : mK M 104 = (0, 2) := h.1 104 (by decide)
theorem aA_104 (h : Wl M) {i : Nat} (hi : i < 2) : aA M 104 0 (nI i) o = o := aA_W h rfl hi (by omega)
theorem k_105 (h : Wl M) : mK M 105 = (0, 30) := h.1 105 (by decide)
theorem aA_105 (h : Wl M) {i : Nat} (hi : i < 30) : aA M 105 0 (nI i) o = o := aA_W h rfl hi (by omega)
theorem k_106 (h : Wl M) : mK M 106 = (2, 900) := h.1 106 (by decide)
theorem aA_106 (h : Wl M) {i : Nat} (hi : i < 900) : aA M 106 2 (nI i) o = o := aA_W h rfl hi (by omega)
theorem k_107 (h : Wl M) : mK M 107 = (2, 205) := h.1 107 (by decide)
theorem aA_107 (h : Wl M) {i : Nat} (hi : i < 205) : aA M 107 2 (nI i) o = o := aA_W h rfl hi (by omega)
theorem k_108 (h : Wl M) : mK M 108 = (1, 30) := h.1 108 (by decide)
theorem aA_108 (h : Wl M) {i : Nat} (hi : i < 30) : aA M 108 1 (nI i) o = o := aA_W h rfl hi (by omega)
theorem k_109 (h : Wl M) : mK M 109 = (1, 150) := h.1 109 (by decide)
theorem aA_109 (h : Wl M) {i : Nat} (hi : i < 150) : aA M 109 1 (nI i) o = o := aA_W h rfl hi (by omega)
theorem k_110 (h : Wl M) : mK M 110 = (1, 205) := h.1 110 (by decide)
theorem aA_110 (h : Wl M) {i : Nat} (hi : i < 205) : aA M 110 1 (nI i) o = o := aA_W h rfl hi (by omega)
theorem k_111 (h : Wl M) : mK M 111 = (0, 8192) := h.1 111 (by decide)
theorem aA_111 (h : Wl M) {i : Nat} (hi : i < 8192) : aA M 111 0 (nI i) o = o := aA_W h rfl hi (by omega)
theorem k_112 (h : Wl M) : mK M 112 = (0, 49152) := h.1 112 (by decide)
theorem aA_112 (h : Wl M) {i : Nat} (hi : i < 49152) : aA M 112 0 (nI i) o = o := aA_W h rfl hi (by omega)
theorem k_113 (h : Wl M) : mK M 113 = (0, 8192) := h.1 113 (by decide)
theorem aA_113 (h : Wl M) {i : Nat} (hi : i < 8192) : aA M 113 0 (nI i) o = o := aA_W h rfl hi (by omega)
theorem k_114 (h : Wl M) : mK M 114 = (0, 8192) := h.1 114 (by decide)
theorem aA_114 (h : Wl M) {i : Nat} (hi : i < 8192) : aA M 114 0 (nI i) o = o := aA_W h rfl hi (by omega)
theorem k_115 (h : Wl M) : mK M 115 = (0, 8192) := h.1 115 (by decide)
theorem aA_115 (h : Wl M) {i : Nat} (hi : i < 8192) : aA M 115 0 (nI i) o = o := aA_W h rfl hi (by omega)
theorem k_116 (h : Wl M) : mK M 116 = (0, 8192) := h.1 116 (by decide)
theorem aA_116 (h : Wl M) {i : Nat} (hi : i < 8192) : aA M 116 0 (nI i) o = o := aA_W h rfl hi (by omega)
theorem k_117 (h : Wl M) : mK M 117 = (1, 16384) := h.1 117 (by decide)
theorem aA_117 (h : Wl M) {i : Nat} (hi : i < 16384) : aA M 117 1 (nI i) o = o := aA_W h rfl hi (by omega)
theorem k_118 (h : Wl M) : mK M 118 = (0, 8192) := h.1 118 (by decide)
theorem aA_118 (h : Wl M) {i : Nat} (hi : i < 8192) : aA M 118 0 (nI i) o = o := aA_W h rfl hi (by omega)
theorem r_1_0 (h : Wl M) : mR M 1 0 = 2 := rW h rfl
theorem r_1_1 (h : Wl M) : mR M 1 1 = 22 := rW h rfl
theorem r_1_2 (h : Wl M) : mR M 1 2 = 23 := rW h rfl
theorem r_1_3 (h : Wl M) : mR M 1 3 = 26 := rW h rfl
theorem r_1_4 (h : Wl M) : mR M 1 4 = 29 := rW h rfl
theorem r_1_5 (h : Wl M) : mR M 1 5 = 32 := rW h rfl
theorem r_1_6 (h : Wl M) : mR M 1 6 = 37 := rW h rfl
theorem r_1_7 (h : Wl M) : mR M 1 7 = 42 := rW h rfl
theorem r_1_8 (h : Wl M) : mR M 1 8 = 48 := rW h rfl
theorem r_1_9 (h : Wl M) : mR M 1 9 = 61 := rW h rfl
theorem r_2_0 (h : Wl M) : mR M 2 0 = 3 := rW h rfl
theorem r_4_0 (h : Wl M) : mR M 4 0 = 5 := rW h rfl
theorem r_4_1 (h : Wl M) : mR M 4 1 = 7 := rW h rfl
theorem r_4_2 (h : Wl M) : mR M 4 2 = 9 := rW h rfl
theorem r_4_3 (h : Wl M) : mR M 4 3 = 11 := rW h rfl
theorem r_5_0 (h : Wl M) : mR M 5 0 = 6 := rW h rfl
theorem r_7_0 (h : Wl M) : mR M 7 0 = 8 := rW h rfl
theorem r_9_0 (h : Wl M) : mR M 9 0 = 10 := rW h rfl
theorem r_11_0 (h : Wl M) : mR M 11 0 = 12 := rW h rfl
theorem r_13_0 (h : Wl M) : mR M 13 0 = 14 := rW h rfl
theorem r_13_1 (h : Wl M) : mR M 13 1 = 16 := rW h rfl
theorem r_13_2 (h : Wl M) : mR M 13 2 = 18 := rW h rfl
theorem r_13_3 (h : Wl M) : mR M 13 3 = 20 := rW h rfl
theorem r_14_0 (h : Wl M) : mR M 14 0 = 15 := rW h rfl
theorem r_16_0 (h : Wl M) : mR M 16 0 = 17 := rW h rfl
theorem r_18_0 (h : Wl M) : mR M 18 0 = 19 := rW h rfl
theorem r_20_0 (h : Wl M) : mR M 20 0 = 21 := rW h rfl
theorem r_22_0 (h : Wl M) : mR M 22 0 = 2 := rW h rfl
theorem r_23_1 (h : Wl M) : mR M 23 1 = 24 := rW h rfl
theorem r_24_0 (h : Wl M) : mR M 24 0 = 25 := rW h rfl
theorem r_26_1 (h : Wl M) : mR M 26 1 = 27 := rW h rfl
theorem r_27_0 (h : Wl M) : mR M 27 0 = 28 := rW h rfl
theorem r_29_0 (h : Wl M) : mR M 29 0 = 30 := rW h rfl
theorem r_30_0 (h : Wl M) : mR M 30 0 = 31 := rW h rfl
theorem r_32_0 (h : Wl M) : mR M 32 0 = 33 := rW h rfl
theorem r_32_1 (h : Wl M) : mR M 32 1 = 35 := rW h rfl
theorem r_33_0 (h : Wl M) : mR M 33 0 = 34 := rW h rfl
theorem r_35_0 (h : Wl M) : mR M 35 0 = 36 := rW h rfl
theorem r_37_0 (h : Wl M) : mR M 37 0 = 38 := rW h rfl
theorem r_37_1 (h : Wl M) : mR M 37 1 = 40 := rW h rfl
theorem r_38_0 (h : Wl M) : mR M 38 0 = 39 := rW h rfl
theorem r_40_0 (h : Wl M) : mR M 40 0 = 41 := rW h rfl
theorem r_42_0 (h : Wl M) : mR M 42 0 = 43 := rW h rfl
theorem r_42_1 (h : Wl M) : mR M 42 1 = 46 := rW h rfl
theorem r_43_1 (h : Wl M) : mR M 43 1 = 44 := rW h rfl
theorem r_44_0 (h : Wl M) : mR M 44 0 = 45 := rW h rfl
theorem r_46_0 (h : Wl M) : mR M 46 0 = 47 := rW h rfl
theorem r_48_0 (h : Wl M) : mR M 48 0 = 49 := rW h rfl
theorem r_48_1 (h : Wl M) : mR M 48 1 = 51 := rW h rfl
theorem r_48_2 (h : Wl M) : mR M 48 2 = 53 := rW h rfl
theorem r_48_3 (h : Wl M) : mR M 48 3 = 55 := rW h rfl
theorem r_48_4 (h : Wl M) : mR M 48 4 = 57 := rW h rfl
theorem r_48_5 (h : Wl M) : mR M 48 5 = 59 := rW h rfl
theorem r_48_6 (h : Wl M) : mR M 48 6 = 32 := rW h rfl
theorem r_49_0 (h : Wl M) : mR M 49 0 = 50 := rW h rfl
theorem r_51_0 (h : Wl M) : mR M 51 0 = 52 := rW h rfl
theorem r_53_0 (h : Wl M) : mR M 53 0 = 54 := rW h rfl
theorem r_55_0 (h : Wl M) : mR M 55 0 = 56 := rW h rfl
theorem r_57_0 (h : Wl M) : mR M 57 0 = 58 := rW h rfl
theorem r_59_0 (h : Wl M) : mR M 59 0 = 60 := rW h rfl
theorem r_61_0 (h : Wl M) : mR M 61 0 = 62 := rW h rfl
theorem r_61_1 (h : Wl M) : mR M 61 1 = 64 := rW h rfl
theorem r_61_2 (h : Wl M) : mR M 61 2 = 66 := rW h rfl
theorem r_61_3 (h : Wl M) : mR M 61 3 = 68 := rW h rfl
theorem r_61_4 (h : Wl M) : mR M 61 4 = 70 := rW h rfl
theorem r_61_7 (h : Wl M) : mR M 61 7 = 76 := rW h rfl
theorem r_61_8 (h : Wl M) : mR M 61 8 = 78 := rW h rfl
theorem r_61_9 (h : Wl M) : mR M 61 9 = 80 := rW h rfl
theorem r_61_10 (h : Wl M) : mR M 61 10 = 82 := rW h rfl
theorem r_61_11 (h : Wl M) : mR M 61 11 = 84 := rW h rfl
theorem r_62_0 (h : Wl M) : mR M 62 0 = 63 := rW h rfl
theorem r_64_0 (h : Wl M) : mR M 64 0 = 65 := rW h rfl
theorem r_86_1 (h : Wl M) : mR M 86 1 = 87 := rW h rfl
theorem r_86_2 (h : Wl M) : mR M 86 2 = 88 := rW h rfl
theorem r_86_3 (h : Wl M) : mR M 86 3 = 89 := rW h rfl
theorem r_86_4 (h : Wl M) : mR M 86 4 = 90 := rW h rfl
theorem r_86_6 (h : Wl M) : mR M 86 6 = 91 := rW h rfl
theorem r_86_17 (h : Wl M) : mR M 86 17 = 92 := rW h rfl
theorem r_86_18 (h : Wl M) : mR M 86 18 = 93 := rW h rfl
theorem r_86_22 (h : Wl M) : mR M 86 22 = 94 := rW h rfl
theorem r_86_24 (h : Wl M) : mR M 86 24 = 95 := rW h rfl
theorem r_86_25 (h : Wl M) : mR M 86 25 = 96 := rW h rfl
theorem r_86_26 (h : Wl M) : mR M 86 26 = 97 := rW h rfl
theorem r_86_27 (h : Wl M) : mR M 86 27 = 98 := rW h rfl
theorem r_86_28 (h : Wl M) : mR M 86 28 = 99 := rW h rfl
theorem r_86_29 (h : Wl M) : mR M 86 29 = 100 := rW h rfl
theorem r_86_32 (h : Wl M) : mR M 86 32 = 101 := rW h rfl
theorem r_86_33 (h : Wl M) : mR M 86 33 = 102 := rW h rfl
theorem r_86_34 (h : Wl M) : mR M 86 34 = 103 := rW h rfl
theorem r_86_35 (h : Wl M) : mR M 86 35 = 104 := rW h rfl
theorem r_86_37 (h : Wl M) : mR M 86 37 = 105 := rW h rfl
theorem r_86_38 (h : Wl M) : mR M 86 38 = 106 := rW h rfl
theorem r_86_39 (h : Wl M) : mR M 86 39 = 107 := rW h rfl
theorem r_86_40 (h : Wl M) : mR M 86 40 = 108 := rW h rfl
theorem r_86_41 (h : Wl M) : mR M 86 41 = 109 := rW h rfl
theorem r_86_42 (h : Wl M) : mR M 86 42 = 110 := rW h rfl
theorem r_86_43 (h : Wl M) : mR M 86 43 = 111 := rW h rfl
theorem r_86_44 (h : Wl M) : mR M 86 44 = 112 := rW h rfl
theorem r_86_45 (h : Wl M) : mR M 86 45 = 113 := rW h rfl
theorem r_86_46 (h : Wl M) : mR M 86 46 = 114 := rW h rfl
theorem r_86_50 (h : Wl M) : mR M 86 50 = 115 := rW h rfl
theorem r_86_51 (h : Wl M) : mR M 86 51 = 116 := rW h rfl
theorem r_86_53 (h : Wl M) : mR M 86 53 = 117 := rW h rfl
theorem r_86_54 (h : Wl M) : mR M 86 54 = 118 := rW h rfl
theorem i_5 (h : Wl M) : LongsAt M 5 6 5 := ⟨k_5 h, r_5_0 h, k_6 h⟩
theorem g_5 (h : Wl M) (x : Int32) : f4_get M 5 x = some (gJ (mJ M 6) 5 x, M) := S4_get (i_5 h) (by omega) x
theorem s_5 (h : Wl M) (x : Int32) (v : Int64) : f4_set M 5 x v = some (uJ M 6 (pJ (mJ M 6) 5 x v)) := S4_set (i_5 h) (by omega) x v
theorem i_7 (h : Wl M) : LongsAt M 7 8 6 := ⟨k_7 h, r_7_0 h, k_8 h⟩
theorem g_7 (h : Wl M) (x : Int32) : f4_get M 7 x = some (gJ (mJ M 8) 6 x, M) := S4_get (i_7 h) (by omega) x
theorem s_7 (h : Wl M) (x : Int32) (v : Int64) : f4_set M 7 x v = some (uJ M 8 (pJ (mJ M 8) 6 x v)) := S4_set (i_7 h) (by omega) x v
theorem i_9 (h : Wl M) : IntsAt M 9 10 98 := ⟨k_9 h, r_9_0 h, k_10 h⟩
theorem g_9 (h : Wl M) (x : Int32) : f3_get M 9 x = some (gI (mI M 10) 98 x, M) := S3_get (i_9 h) (by omega) x
theorem s_9 (h : Wl M) (x : Int32) (v : Int32) : f3_set M 9 x v = some (uI M 10 (pI (mI M 10) 98 x v)) := S3_set (i_9 h) (by omega) x v
theorem i_11 (h : Wl M) : IntsAt M 11 12 24 := ⟨k_11 h, r_11_0 h, k_12 h⟩
theorem g_11 (h : Wl M) (x : Int32) : f3_get M 11 x = some (gI (mI M 12) 24 x, M) := S3_get (i_11 h) (by omega) x
theorem s_11 (h : Wl M) (x : Int32) (v : Int32) : f3_set M 11 x v = some (uI M 12 (pI (mI M 12) 24 x v)) := S3_set (i_11 h) (by omega) x v
theorem i_14 (h : Wl M) : LongsAt M 14 15 5 := ⟨k_14 h, r_14_0 h, k_15 h⟩
theorem g_14 (h : Wl M) (x : Int32) : f4_get M 14 x = some (gJ (mJ M 15) 5 x, M) := S4_get (i_14 h) (by omega) x
theorem s_14 (h : Wl M) (x : Int32) (v : Int64) : f4_set M 14 x v = some (uJ M 15 (pJ (mJ M 15) 5 x v)) := S4_set (i_14 h) (by omega) x v
theorem i_16 (h : Wl M) : LongsAt M 16 17 6 := ⟨k_16 h, r_16_0 h, k_17 h⟩
theorem g_16 (h : Wl M) (x : Int32) : f4_get M 16 x = some (gJ (mJ M 17) 6 x, M) := S4_get (i_16 h) (by omega) x
theorem s_16 (h : Wl M) (x : Int32) (v : Int64) : f4_set M 16 x v = some (uJ M 17 (pJ (mJ M 17) 6 x v)) := S4_set (i_16 h) (by omega) x v
theorem i_18 (h : Wl M) : IntsAt M 18 19 98 := ⟨k_18 h, r_18_0 h, k_19 h⟩
theorem g_18 (h : Wl M) (x : Int32) : f3_get M 18 x = some (gI (mI M 19) 98 x, M) := S3_get (i_18 h) (by omega) x
theorem s_18 (h : Wl M) (x : Int32) (v : Int32) : f3_set M 18 x v = some (uI M 19 (pI (mI M 19) 98 x v)) := S3_set (i_18 h) (by omega) x v
theorem i_20 (h : Wl M) : IntsAt M 20 21 24 := ⟨k_20 h, r_20_0 h, k_21 h⟩
theorem g_20 (h : Wl M) (x : Int32) : f3_get M 20 x = some (gI (mI M 21) 24 x, M) := S3_get (i_20 h) (by omega) x
theorem s_20 (h : Wl M) (x : Int32) (v : Int32) : f3_set M 20 x v = some (uI M 21 (pI (mI M 21) 24 x v)) := S3_set (i_20 h) (by omega) x v
theorem i_24 (h : Wl M) : IntsAt M 24 25 40 := ⟨k_24 h, r_24_0 h, k_25 h⟩
theorem g_24 (h : Wl M) (x : Int32) : f3_get M 24 x = some (gI (mI M 25) 40 x, M) := S3_get (i_24 h) (by omega) x
theorem s_24 (h : Wl M) (x : Int32) (v : Int32) : f3_set M 24 x v = some (uI M 25 (pI (mI M 25) 40 x v)) := S3_set (i_24 h) (by omega) x v
theorem i_27 (h : Wl M) : IntsAt M 27 28 40 := ⟨k_27 h, r_27_0 h, k_28 h⟩
theorem g_27 (h : Wl M) (x : Int32) : f3_get M 27 x = some (gI (mI M 28) 40 x, M) := S3_get (i_27 h) (by omega) x
theorem s_27 (h : Wl M) (x : Int32) (v : Int32) : f3_set M 27 x v = some (uI M 28 (pI (mI M 28) 40 x v)) := S3_set (i_27 h) (by omega) x v
theorem i_30 (h : Wl M) : IntsAt M 30 31 516 := ⟨k_30 h, r_30_0 h, k_31 h⟩
theorem g_30 (h : Wl M) (x : Int32) : f3_get M 30 x = some (gI (mI M 31) 516 x, M) := S3_get (i_30 h) (by omega) x
theorem s_30 (h : Wl M) (x : Int32) (v : Int32) : f3_set M 30 x v = some (uI M 31 (pI (mI M 31) 516 x v)) := S3_set (i_30 h) (by omega) x v
theorem i_33 (h : Wl M) : LongsAt M 33 34 1350 := ⟨k_33 h, r_33_0 h, k_34 h⟩
theorem g_33 (h : Wl M) (x : Int32) : f4_get M 33 x = some (gJ (mJ M 34) 1350 x, M) := S4_get (i_33 h) (by omega) x
theorem s_33 (h : Wl M) (x : Int32) (v : Int64) : f4_set M 33 x v = some (uJ M 34 (pJ (mJ M 34) 1350 x v)) := S4_set (i_33 h) (by omega) x v
theorem i_35 (h : Wl M) : LongsAt M 35 36 2115 := ⟨k_35 h, r_35_0 h, k_36 h⟩
theorem g_35 (h : Wl M) (x : Int32) : f4_get M 35 x = some (gJ (mJ M 36) 2115 x, M) := S4_get (i_35 h) (by omega) x
theorem s_35 (h : Wl M) (x : Int32) (v : Int64) : f4_set M 35 x v = some (uJ M 36 (pJ (mJ M 36) 2115 x v)) := S4_set (i_35 h) (by omega) x v
theorem i_38 (h : Wl M) : LongsAt M 38 39 1350 := ⟨k_38 h, r_38_0 h, k_39 h⟩
theorem g_38 (h : Wl M) (x : Int32) : f4_get M 38 x = some (gJ (mJ M 39) 1350 x, M) := S4_get (i_38 h) (by omega) x
theorem s_38 (h : Wl M) (x : Int32) (v : Int64) : f4_set M 38 x v = some (uJ M 39 (pJ (mJ M 39) 1350 x v)) := S4_set (i_38 h) (by omega) x v
theorem i_40 (h : Wl M) : LongsAt M 40 41 615 := ⟨k_40 h, r_40_0 h, k_41 h⟩
theorem g_40 (h : Wl M) (x : Int32) : f4_get M 40 x = some (gJ (mJ M 41) 615 x, M) := S4_get (i_40 h) (by omega) x
theorem s_40 (h : Wl M) (x : Int32) (v : Int64) : f4_set M 40 x v = some (uJ M 41 (pJ (mJ M 41) 615 x v)) := S4_set (i_40 h) (by omega) x v
theorem i_44 (h : Wl M) : IntsAt M 44 45 140 := ⟨k_44 h, r_44_0 h, k_45 h⟩
theorem g_44 (h : Wl M) (x : Int32) : f3_get M 44 x = some (gI (mI M 45) 140 x, M) := S3_get (i_44 h) (by omega) x
theorem s_44 (h : Wl M) (x : Int32) (v : Int32) : f3_set M 44 x v = some (uI M 45 (pI (mI M 45) 140 x v)) := S3_set (i_44 h) (by omega) x v
theorem i_46 (h : Wl M) : IntsAt M 46 47 100 := ⟨k_46 h, r_46_0 h, k_47 h⟩
theorem g_46 (h : Wl M) (x : Int32) : f3_get M 46 x = some (gI (mI M 47) 100 x, M) := S3_get (i_46 h) (by omega) x
theorem s_46 (h : Wl M) (x : Int32) (v : Int32) : f3_set M 46 x v = some (uI M 47 (pI (mI M 47) 100 x v)) := S3_set (i_46 h) (by omega) x v
theorem i_49 (h : Wl M) : IntsAt M 49 50 30 := ⟨k_49 h, r_49_0 h, k_50 h⟩
theorem g_49 (h : Wl M) (x : Int32) : f3_get M 49 x = some (gI (mI M 50) 30 x, M) := S3_get (i_49 h) (by omega) x
theorem s_49 (h : Wl M) (x : Int32) (v : Int32) : f3_set M 49 x v = some (uI M 50 (pI (mI M 50) 30 x v)) := S3_set (i_49 h) (by omega) x v
theorem i_51 (h : Wl M) : IntsAt M 51 52 30 := ⟨k_51 h, r_51_0 h, k_52 h⟩
theorem g_51 (h : Wl M) (x : Int32) : f3_get M 51 x = some (gI (mI M 52) 30 x, M) := S3_get (i_51 h) (by omega) x
theorem s_51 (h : Wl M) (x : Int32) (v : Int32) : f3_set M 51 x v = some (uI M 52 (pI (mI M 52) 30 x v)) := S3_set (i_51 h) (by omega) x v
theorem i_53 (h : Wl M) : LongsAt M 53 54 30 := ⟨k_53 h, r_53_0 h, k_54 h⟩
theorem g_53 (h : Wl M) (x : Int32) : f4_get M 53 x = some (gJ (mJ M 54) 30 x, M) := S4_get (i_53 h) (by omega) x
theorem s_53 (h : Wl M) (x : Int32) (v : Int64) : f4_set M 53 x v = some (uJ M 54 (pJ (mJ M 54) 30 x v)) := S4_set (i_53 h) (by omega) x v
theorem i_55 (h : Wl M) : LongsAt M 55 56 150 := ⟨k_55 h, r_55_0 h, k_56 h⟩
theorem g_55 (h : Wl M) (x : Int32) : f4_get M 55 x = some (gJ (mJ M 56) 150 x, M) := S4_get (i_55 h) (by omega) x
theorem s_55 (h : Wl M) (x : Int32) (v : Int64) : f4_set M 55 x v = some (uJ M 56 (pJ (mJ M 56) 150 x v)) := S4_set (i_55 h) (by omega) x v
theorem i_57 (h : Wl M) : LongsAt M 57 58 5 := ⟨k_57 h, r_57_0 h, k_58 h⟩
theorem g_57 (h : Wl M) (x : Int32) : f4_get M 57 x = some (gJ (mJ M 58) 5 x, M) := S4_get (i_57 h) (by omega) x
theorem s_57 (h : Wl M) (x : Int32) (v : Int64) : f4_set M 57 x v = some (uJ M 58 (pJ (mJ M 58) 5 x v)) := S4_set (i_57 h) (by omega) x v
theorem i_59 (h : Wl M) : LongsAt M 59 60 5 := ⟨k_59 h, r_59_0 h, k_60 h⟩
theorem g_59 (h : Wl M) (x : Int32) : f4_get M 59 x = some (gJ (mJ M 60) 5 x, M) := S4_get (i_59 h) (by omega) x
theorem s_59 (h : Wl M) (x : Int32) (v : Int64) : f4_set M 59 x v = some (uJ M 60 (pJ (mJ M 60) 5 x v)) := S4_set (i_59 h) (by omega) x v
theorem i_62 (h : Wl M) : IntsAt M 62 63 90 := ⟨k_62 h, r_62_0 h, k_63 h⟩
theorem g_62 (h : Wl M) (x : Int32) : f3_get M 62 x = some (gI (mI M 63) 90 x, M) := S3_get (i_62 h) (by omega) x
theorem s_62 (h : Wl M) (x : Int32) (v : Int32) : f3_set M 62 x v = some (uI M 63 (pI (mI M 63) 90 x v)) := S3_set (i_62 h) (by omega) x v
theorem i_64 (h : Wl M) : IntsAt M 64 65 256 := ⟨k_64 h, r_64_0 h, k_65 h⟩
theorem g_64 (h : Wl M) (x : Int32) : f3_get M 64 x = some (gI (mI M 65) 256 x, M) := S3_get (i_64 h) (by omega) x
theorem s_64 (h : Wl M) (x : Int32) (v : Int32) : f3_set M 64 x v = some (uI M 65 (pI (mI M 65) 256 x v)) := S3_set (i_64 h) (by omega) x v
end WL
