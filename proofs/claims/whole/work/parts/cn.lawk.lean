/-! THE LAW: its cases -/
theorem Inv.ok {M : MM} (h : Inv M) : (mK M 1).1 = 14 ∧ (mK M 86).1 = 15 ∧ mK M 119 = (1, 1) ∧ 120 ≤ mz M ∧ mz M ≤ 180 ∧ mn M ≤ 300000 := by
  obtain ⟨Q, o, nw, n, A, L, B, ar, d, a, f1, f2, ic, im, aw, iz⟩ := h
  have w := ic.1.1
  have d6 := ic.2.2.1.1.2.2
  have rr := RMs_le d6
  obtain ⟨z1, z2, z3⟩ := iz
  have z4 : mn M + 1920 = 132749 + 30 * RMs d := z3
  exact ⟨by rw [k_1 w], by rw [k_86 w], z1, by omega, by omega, by omega⟩
theorem aO_k {M : MM} {a ci : Nat} {β : Type} {o : Option β} {q : β} (h : aO M a ci o = some q) : (mK M a).1 = ci + 3 := by
  unfold aO at h
  split at h
  · assumption
  · cases h
def lv0 (i : Nat) : List (Nat × AV) := [(4, vi (nI i)), (3, vr 119), (2, vr 86), (1, vr 1)]
theorem ok_in {M : MM} {l : List Int32} {a : Nat} (h : a < mz M) : ∀ v ∈ vr a :: l.map vi, okv M v := fun v hv => by
  rcases List.mem_cons.mp hv with e | e
  · rw [e]; exact h
  · obtain ⟨x, -, rfl⟩ := List.mem_map.mp e
    trivial
theorem ok_st {M : MM} {l : List Int32} {a : Nat} {z : List AV} (h : a < mz M) (hz : ∀ v ∈ z, okv M v) : ∀ v ∈ l.map vi ++ vr a :: z, okv M v := fun v hv => by
  rcases List.mem_append.mp hv with e | e
  · obtain ⟨x, -, rfl⟩ := List.mem_map.mp e
    trivial
  · rcases List.mem_cons.mp e with e | e
    · rw [e]; exact h
    · exact hz v e
theorem ok_lv {M : MM} {i : Nat} {st : List AV} (h : 120 ≤ mz M) (hs : ∀ v ∈ st, okv M v) : OK M (lv0 i) st := by
  refine ⟨fun q hq => ?_, hs⟩
  simp only [lv0, List.mem_cons, List.not_mem_nil, or_false] at hq
  rcases hq with e | e | e | e <;> subst e
  · trivial
  · exact Nat.lt_of_lt_of_le (by decide) h
  · exact Nat.lt_of_lt_of_le (by decide) h
  · exact Nat.lt_of_lt_of_le (by decide) h
section LAWK
variable {κ : LC} {L : Nat} {xs : Nat → Int32}
def zb (v : Int32) : Int32 := if v = 0 then 0 else 1
theorem LX_zb (C0 : LA κ L xs) {pc k n : Nat} {lv : List (Nat × AV)} {st : List AV} {M : MM} {v : Int32} (d0 : decode code pc = .ok (.ifCond .eq 7, 3)) (d3 : decode code (pc + 3) = .ok (.iconst 1, 1)) (d4 : decode code (pc + 4) = .ok (.goto 4, 3)) (d7 : decode code (pc + 7) = .ok (.iconst 0, 1)) (kk : LX κ (pc + 8) lv (vi (zb v) :: st) M k n) : LX κ pc lv (vi v :: st) M k n := by
  refine LX_ifeq C0 (t := pc + 7) d0 (by omega) (fun h => ?_) (fun h => ?_)
  · refine LX_iconst C0 (x := 0) d7 rfl ?_
    rw [show zb v = 0 from if_pos h] at kk
    exact kk
  · refine LX_iconst C0 (x := 1) d3 rfl ?_
    refine LX_goto C0 (t := pc + 8) d4 (by omega) ?_
    rw [show zb v = 1 from if_neg h] at kk
    exact kk
theorem ddL_0 : AllD code [(180, .aload_n 1, 1), (181, .aload_n 0, 1), (182, .iload 4, 2), (184, .iconst 1, 1), (185, .iadd, 1), (186, .iaload, 1), (187, .aload_n 0, 1), (188, .iload 4, 2), (190, .iconst 2, 1), (191, .iadd, 1), (192, .iaload, 1), (193, .aload_n 0, 1), (194, .iload 4, 2), (196, .iconst 3, 1), (197, .iadd, 1), (198, .iaload, 1), (199, .aload_n 0, 1), (200, .iload 4, 2), (202, .iconst 4, 1), (203, .iadd, 1), (204, .iaload, 1), (205, .aload_n 0, 1), (206, .iload 4, 2), (208, .iconst 5, 1), (209, .iadd, 1), (210, .iaload, 1), (211, .invokevirtual 26, 3), (214, .aload_n 2, 1), (215, .aload_n 0, 1), (216, .iload 4, 2), (218, .iconst 1, 1), (219, .iadd, 1), (220, .iaload, 1), (221, .aload_n 0, 1), (222, .iload 4, 2), (224, .iconst 2, 1), (225, .iadd, 1), (226, .iaload, 1), (227, .aload_n 0, 1), (228, .iload 4, 2), (230, .iconst 3, 1), (231, .iadd, 1), (232, .iaload, 1), (233, .aload_n 0, 1), (234, .iload 4, 2), (236, .iconst 4, 1), (237, .iadd, 1), (238, .iaload, 1), (239, .aload_n 0, 1), (240, .iload 4, 2), (242, .iconst 5, 1), (243, .iadd, 1), (244, .iaload, 1), (245, .invokevirtual 30, 3), (248, .if_icmp .eq 941, 3), (251, .iconst 0, 1), (252, .ireturn, 1)] := allD_of (by decide +kernel)
theorem law_c0 (C0 : LA κ L xs) (hL : L ≤ 3072) {i : Nat} (hi : i + 6 ≤ L) {M : MM} {k n : Nat} (hW : WF M) (hv : Inv M) (hk : k ≤ 4000) (hn : n ≤ 24000) (kk : ∀ M2, WF M2 → Inv M2 → LX κ 1189 (lv0 i) [] M2 k n) : LX κ 180 (lv0 i) [] M k n := by
  obtain ⟨d180, d181, d182, d184, d185, d186, d187, d188, d190, d191, d192, d193, d194, d196, d197, d198, d199, d200, d202, d203, d204, d205, d206, d208, d209, d210, d211, d214, d215, d216, d218, d219, d220, d221, d222, d224, d225, d226, d227, d228, d230, d231, d232, d233, d234, d236, d237, d238, d239, d240, d242, d243, d244, d245, d248, d251, d252, -⟩ := ddL_0
  obtain ⟨r, M1, M2, b1, b2, hv2⟩ := st_feed (xs (i + 1)) (xs (i + 2)) (xs (i + 3)) (xs (i + 4)) (xs (i + 5)) M hv
  have a1 : f11_feed M 1 (xs (i + 1)) (xs (i + 2)) (xs (i + 3)) (xs (i + 4)) (xs (i + 5)) = some (r, M1) := b1
  have a2 : f12_feed M1 86 (xs (i + 1)) (xs (i + 2)) (xs (i + 3)) (xs (i + 4)) (xs (i + 5)) = some (r, M2) := b2
  obtain ⟨o1, o2, o3, o4, o5, o6⟩ := hv.ok
  obtain ⟨-, -, -, q4, q5, q6⟩ := hv2.ok
  have R1 := T11_feed M 1 (xs (i + 1)) (xs (i + 2)) (xs (i + 3)) (xs (i + 4)) (xs (i + 5)) _ a1
  have g1 := (R1 hW (ok_in (l := [xs (i + 1), xs (i + 2), xs (i + 3), xs (i + 4), xs (i + 5)]) (by omega))).1
  have hW1 : WF M1 := g1.2.1
  have z1 : mz M ≤ mz M1 := g1.1.1
  have R2 := T12_feed M1 86 (xs (i + 1)) (xs (i + 2)) (xs (i + 3)) (xs (i + 4)) (xs (i + 5)) _ a2
  have g2 := (R2 hW1 (ok_in (l := [xs (i + 1), xs (i + 2), xs (i + 3), xs (i + 4), xs (i + 5)]) (by omega))).1
  have hW2 : WF M2 := g2.2.1
  have z2 : mz M1 ≤ mz M2 := g2.1.1
  have y2 : mn M1 ≤ mn M2 := g2.1.2
  have kM1 : (mK M1 86).1 = 15 := by
    unfold f12_feed at a2
    exact aO_k a2
  refine LX_aload C0 3 d180 rfl ?_
  refine LX_arg C0 hL (j := 1) (t := 0) rfl (by omega) rfl d181 d182 d184 d185 d186 ?_
  refine LX_arg C0 hL (j := 2) (t := 0) rfl (by omega) rfl d187 d188 d190 d191 d192 ?_
  refine LX_arg C0 hL (j := 3) (t := 0) rfl (by omega) rfl d193 d194 d196 d197 d198 ?_
  refine LX_arg C0 hL (j := 4) (t := 0) rfl (by omega) rfl d199 d200 d202 d203 d204 ?_
  refine LX_arg C0 hL (j := 5) (t := 0) rfl (by omega) rfl d205 d206 d208 d209 d210 ?_
  refine LX_callV C0 (as := [vi (xs (i + 1)), vi (xs (i + 2)), vi (xs (i + 3)), vi (xs (i + 4)), vi (xs (i + 5))]) (st := []) d211 cv_jCallStepsLaw_26 ⟨by decide, by decide⟩ rfl (Nat.le_of_ble_eq_true rfl) o1 hW (ok_lv o4 (ok_st (l := [xs (i + 5), xs (i + 4), xs (i + 3), xs (i + 2), xs (i + 1)]) (z := []) (by omega) (fun v hv => by cases hv))) R1 (show mz M1 - 1 + k ≤ 601024 by omega) (show mn M1 + n ≤ 7293034 by omega) (fun _ _ => ?_)
  show LX κ _ (lv0 i) [vi r] M1 k n
  refine LX_aload C0 2 d214 rfl ?_
  refine LX_arg C0 hL (j := 1) (t := 0) rfl (by omega) rfl d215 d216 d218 d219 d220 ?_
  refine LX_arg C0 hL (j := 2) (t := 0) rfl (by omega) rfl d221 d222 d224 d225 d226 ?_
  refine LX_arg C0 hL (j := 3) (t := 0) rfl (by omega) rfl d227 d228 d230 d231 d232 ?_
  refine LX_arg C0 hL (j := 4) (t := 0) rfl (by omega) rfl d233 d234 d236 d237 d238 ?_
  refine LX_arg C0 hL (j := 5) (t := 0) rfl (by omega) rfl d239 d240 d242 d243 d244 ?_
  refine LX_callV C0 (as := [vi (xs (i + 1)), vi (xs (i + 2)), vi (xs (i + 3)), vi (xs (i + 4)), vi (xs (i + 5))]) (st := [vi r]) d245 cv_jCallStepsLaw_30 ⟨by decide, by decide⟩ rfl (Nat.le_of_ble_eq_true rfl) kM1 hW1 (ok_lv (by omega) (ok_st (l := [xs (i + 5), xs (i + 4), xs (i + 3), xs (i + 2), xs (i + 1)]) (z := [vi r]) (by omega) (fun v hv => by rw [List.mem_singleton.mp hv]; trivial))) R2 (show mz M2 - 1 + k ≤ 601024 by omega) (show mn M2 + n ≤ 7293034 by omega) (fun _ _ => ?_)
  show LX κ _ (lv0 i) [vi r, vi r] M2 k n
  exact LX_same C0 d248 rfl (kk M2 hW2 hv2)
theorem ddL_1 : AllD code [(253, .aload_n 1, 1), (254, .aload_n 0, 1), (255, .iload 4, 2), (257, .iconst 1, 1), (258, .iadd, 1), (259, .iaload, 1), (260, .invokevirtual 31, 3), (263, .aload_n 2, 1), (264, .aload_n 0, 1), (265, .iload 4, 2), (267, .iconst 1, 1), (268, .iadd, 1), (269, .iaload, 1), (270, .invokevirtual 35, 3), (273, .if_icmp .eq 916, 3), (276, .iconst 0, 1), (277, .ireturn, 1)] := allD_of (by decide +kernel)
theorem law_c1 (C0 : LA κ L xs) (hL : L ≤ 3072) {i : Nat} (hi : i + 6 ≤ L) {M : MM} {k n : Nat} (hW : WF M) (hv : Inv M) (hk : k ≤ 4000) (hn : n ≤ 24000) (kk : ∀ M2, WF M2 → Inv M2 → LX κ 1189 (lv0 i) [] M2 k n) : LX κ 253 (lv0 i) [] M k n := by
  obtain ⟨d253, d254, d255, d257, d258, d259, d260, d263, d264, d265, d267, d268, d269, d270, d273, d276, d277, -⟩ := ddL_1
  obtain ⟨r, M1, M2, b1, b2, hv2⟩ := st_end (xs (i + 1)) M hv
  have a1 : f11_end M 1 (xs (i + 1)) = some (r, M1) := b1
  have a2 : f12_end M1 86 (xs (i + 1)) = some (r, M2) := b2
  obtain ⟨o1, o2, o3, o4, o5, o6⟩ := hv.ok
  obtain ⟨-, -, -, q4, q5, q6⟩ := hv2.ok
  have R1 := T11_end M 1 (xs (i + 1)) _ a1
  have g1 := (R1 hW (ok_in (l := [xs (i + 1)]) (by omega))).1
  have hW1 : WF M1 := g1.2.1
  have z1 : mz M ≤ mz M1 := g1.1.1
  have R2 := T12_end M1 86 (xs (i + 1)) _ a2
  have g2 := (R2 hW1 (ok_in (l := [xs (i + 1)]) (by omega))).1
  have hW2 : WF M2 := g2.2.1
  have z2 : mz M1 ≤ mz M2 := g2.1.1
  have y2 : mn M1 ≤ mn M2 := g2.1.2
  have kM1 : (mK M1 86).1 = 15 := by
    unfold f12_end at a2
    exact aO_k a2
  refine LX_aload C0 3 d253 rfl ?_
  refine LX_arg C0 hL (j := 1) (t := 0) rfl (by omega) rfl d254 d255 d257 d258 d259 ?_
  refine LX_callV C0 (as := [vi (xs (i + 1))]) (st := []) d260 cv_jCallStepsLaw_31 ⟨by decide, by decide⟩ rfl (Nat.le_of_ble_eq_true rfl) o1 hW (ok_lv o4 (ok_st (l := [xs (i + 1)]) (z := []) (by omega) (fun v hv => by cases hv))) R1 (show mz M1 - 1 + k ≤ 601024 by omega) (show mn M1 + n ≤ 7293034 by omega) (fun _ _ => ?_)
  show LX κ _ (lv0 i) [vi r] M1 k n
  refine LX_aload C0 2 d263 rfl ?_
  refine LX_arg C0 hL (j := 1) (t := 0) rfl (by omega) rfl d264 d265 d267 d268 d269 ?_
  refine LX_callV C0 (as := [vi (xs (i + 1))]) (st := [vi r]) d270 cv_jCallStepsLaw_35 ⟨by decide, by decide⟩ rfl (Nat.le_of_ble_eq_true rfl) kM1 hW1 (ok_lv (by omega) (ok_st (l := [xs (i + 1)]) (z := [vi r]) (by omega) (fun v hv => by rw [List.mem_singleton.mp hv]; trivial))) R2 (show mz M2 - 1 + k ≤ 601024 by omega) (show mn M2 + n ≤ 7293034 by omega) (fun _ _ => ?_)
  show LX κ _ (lv0 i) [vi r, vi r] M2 k n
  exact LX_same C0 d273 rfl (kk M2 hW2 hv2)
theorem ddL_2 : AllD code [(278, .aload_n 1, 1), (279, .invokevirtual 36, 3), (282, .aload_n 2, 1), (283, .invokevirtual 40, 3), (286, .if_icmp .eq 903, 3), (289, .iconst 0, 1), (290, .ireturn, 1)] := allD_of (by decide +kernel)
theorem law_c2 (C0 : LA κ L xs) (hL : L ≤ 3072) {i : Nat} (hi : i + 6 ≤ L) {M : MM} {k n : Nat} (hW : WF M) (hv : Inv M) (hk : k ≤ 4000) (hn : n ≤ 24000) (kk : ∀ M2, WF M2 → Inv M2 → LX κ 1189 (lv0 i) [] M2 k n) : LX κ 278 (lv0 i) [] M k n := by
  obtain ⟨d278, d279, d282, d283, d286, d289, d290, -⟩ := ddL_2
  obtain ⟨r, M1, M2, b1, b2, hv2⟩ := st_system M hv
  have a1 : f11_system M 1 = some (r, M1) := b1
  have a2 : f12_system M1 86 = some (r, M2) := b2
  obtain ⟨o1, o2, o3, o4, o5, o6⟩ := hv.ok
  obtain ⟨-, -, -, q4, q5, q6⟩ := hv2.ok
  have R1 := T11_system M 1 _ a1
  have g1 := (R1 hW (ok_in (l := []) (by omega))).1
  have hW1 : WF M1 := g1.2.1
  have z1 : mz M ≤ mz M1 := g1.1.1
  have R2 := T12_system M1 86 _ a2
  have g2 := (R2 hW1 (ok_in (l := []) (by omega))).1
  have hW2 : WF M2 := g2.2.1
  have z2 : mz M1 ≤ mz M2 := g2.1.1
  have y2 : mn M1 ≤ mn M2 := g2.1.2
  have kM1 : (mK M1 86).1 = 15 := by
    unfold f12_system at a2
    exact aO_k a2
  refine LX_aload C0 3 d278 rfl ?_
  refine LX_callV C0 (as := []) (st := []) d279 cv_jCallStepsLaw_36 ⟨by decide, by decide⟩ rfl (Nat.le_of_ble_eq_true rfl) o1 hW (ok_lv o4 (ok_st (l := []) (z := []) (by omega) (fun v hv => by cases hv))) R1 (show mz M1 - 1 + k ≤ 601024 by omega) (show mn M1 + n ≤ 7293034 by omega) (fun _ _ => ?_)
  show LX κ _ (lv0 i) [vi r] M1 k n
  refine LX_aload C0 2 d282 rfl ?_
  refine LX_callV C0 (as := []) (st := [vi r]) d283 cv_jCallStepsLaw_40 ⟨by decide, by decide⟩ rfl (Nat.le_of_ble_eq_true rfl) kM1 hW1 (ok_lv (by omega) (ok_st (l := []) (z := [vi r]) (by omega) (fun v hv => by rw [List.mem_singleton.mp hv]; trivial))) R2 (show mz M2 - 1 + k ≤ 601024 by omega) (show mn M2 + n ≤ 7293034 by omega) (fun _ _ => ?_)
  show LX κ _ (lv0 i) [vi r, vi r] M2 k n
  exact LX_same C0 d286 rfl (kk M2 hW2 hv2)
theorem ddL_3 : AllD code [(291, .aload_n 1, 1), (292, .aload_n 0, 1), (293, .iload 4, 2), (295, .iconst 1, 1), (296, .iadd, 1), (297, .iaload, 1), (298, .invokevirtual 41, 3), (301, .aload_n 2, 1), (302, .aload_n 0, 1), (303, .iload 4, 2), (305, .iconst 1, 1), (306, .iadd, 1), (307, .iaload, 1), (308, .invokevirtual 44, 3), (311, .if_icmp .eq 878, 3), (314, .iconst 0, 1), (315, .ireturn, 1)] := allD_of (by decide +kernel)
theorem law_c3 (C0 : LA κ L xs) (hL : L ≤ 3072) {i : Nat} (hi : i + 6 ≤ L) {M : MM} {k n : Nat} (hW : WF M) (hv : Inv M) (hk : k ≤ 4000) (hn : n ≤ 24000) (kk : ∀ M2, WF M2 → Inv M2 → LX κ 1189 (lv0 i) [] M2 k n) : LX κ 291 (lv0 i) [] M k n := by
  obtain ⟨d291, d292, d293, d295, d296, d297, d298, d301, d302, d303, d305, d306, d307, d308, d311, d314, d315, -⟩ := ddL_3
  obtain ⟨r, M1, M2, b1, b2, hv2⟩ := st_fault (xs (i + 1)) M hv
  have a1 : f11_fault M 1 (xs (i + 1)) = some (r, M1) := b1
  have a2 : f12_fault M1 86 (xs (i + 1)) = some (r, M2) := b2
  obtain ⟨o1, o2, o3, o4, o5, o6⟩ := hv.ok
  obtain ⟨-, -, -, q4, q5, q6⟩ := hv2.ok
  have R1 := T11_fault M 1 (xs (i + 1)) _ a1
  have g1 := (R1 hW (ok_in (l := [xs (i + 1)]) (by omega))).1
  have hW1 : WF M1 := g1.2.1
  have z1 : mz M ≤ mz M1 := g1.1.1
  have R2 := T12_fault M1 86 (xs (i + 1)) _ a2
  have g2 := (R2 hW1 (ok_in (l := [xs (i + 1)]) (by omega))).1
  have hW2 : WF M2 := g2.2.1
  have z2 : mz M1 ≤ mz M2 := g2.1.1
  have y2 : mn M1 ≤ mn M2 := g2.1.2
  have kM1 : (mK M1 86).1 = 15 := by
    unfold f12_fault at a2
    exact aO_k a2
  refine LX_aload C0 3 d291 rfl ?_
  refine LX_arg C0 hL (j := 1) (t := 0) rfl (by omega) rfl d292 d293 d295 d296 d297 ?_
  refine LX_callV C0 (as := [vi (xs (i + 1))]) (st := []) d298 cv_jCallStepsLaw_41 ⟨by decide, by decide⟩ rfl (Nat.le_of_ble_eq_true rfl) o1 hW (ok_lv o4 (ok_st (l := [xs (i + 1)]) (z := []) (by omega) (fun v hv => by cases hv))) R1 (show mz M1 - 1 + k ≤ 601024 by omega) (show mn M1 + n ≤ 7293034 by omega) (fun _ _ => ?_)
  show LX κ _ (lv0 i) [vi r] M1 k n
  refine LX_aload C0 2 d301 rfl ?_
  refine LX_arg C0 hL (j := 1) (t := 0) rfl (by omega) rfl d302 d303 d305 d306 d307 ?_
  refine LX_callV C0 (as := [vi (xs (i + 1))]) (st := [vi r]) d308 cv_jCallStepsLaw_44 ⟨by decide, by decide⟩ rfl (Nat.le_of_ble_eq_true rfl) kM1 hW1 (ok_lv (by omega) (ok_st (l := [xs (i + 1)]) (z := [vi r]) (by omega) (fun v hv => by rw [List.mem_singleton.mp hv]; trivial))) R2 (show mz M2 - 1 + k ≤ 601024 by omega) (show mn M2 + n ≤ 7293034 by omega) (fun _ _ => ?_)
  show LX κ _ (lv0 i) [vi r, vi r] M2 k n
  exact LX_same C0 d311 rfl (kk M2 hW2 hv2)
theorem ddL_4 : AllD code [(316, .aload_n 1, 1), (317, .aload_n 0, 1), (318, .iload 4, 2), (320, .iconst 1, 1), (321, .iadd, 1), (322, .iaload, 1), (323, .invokevirtual 45, 3), (326, .aload_n 2, 1), (327, .aload_n 0, 1), (328, .iload 4, 2), (330, .iconst 1, 1), (331, .iadd, 1), (332, .iaload, 1), (333, .invokevirtual 48, 3), (336, .if_icmp .eq 853, 3), (339, .iconst 0, 1), (340, .ireturn, 1)] := allD_of (by decide +kernel)
theorem law_c4 (C0 : LA κ L xs) (hL : L ≤ 3072) {i : Nat} (hi : i + 6 ≤ L) {M : MM} {k n : Nat} (hW : WF M) (hv : Inv M) (hk : k ≤ 4000) (hn : n ≤ 24000) (kk : ∀ M2, WF M2 → Inv M2 → LX κ 1189 (lv0 i) [] M2 k n) : LX κ 316 (lv0 i) [] M k n := by
  obtain ⟨d316, d317, d318, d320, d321, d322, d323, d326, d327, d328, d330, d331, d332, d333, d336, d339, d340, -⟩ := ddL_4
  obtain ⟨r, M1, M2, b1, b2, hv2⟩ := st_about (xs (i + 1)) M hv
  have a1 : f11_about M 1 (xs (i + 1)) = some (r, M1) := b1
  have a2 : f12_about M1 86 (xs (i + 1)) = some (r, M2) := b2
  obtain ⟨o1, o2, o3, o4, o5, o6⟩ := hv.ok
  obtain ⟨-, -, -, q4, q5, q6⟩ := hv2.ok
  have R1 := T11_about M 1 (xs (i + 1)) _ a1
  have g1 := (R1 hW (ok_in (l := [xs (i + 1)]) (by omega))).1
  have hW1 : WF M1 := g1.2.1
  have z1 : mz M ≤ mz M1 := g1.1.1
  have R2 := T12_about M1 86 (xs (i + 1)) _ a2
  have g2 := (R2 hW1 (ok_in (l := [xs (i + 1)]) (by omega))).1
  have hW2 : WF M2 := g2.2.1
  have z2 : mz M1 ≤ mz M2 := g2.1.1
  have y2 : mn M1 ≤ mn M2 := g2.1.2
  have kM1 : (mK M1 86).1 = 15 := by
    unfold f12_about at a2
    exact aO_k a2
  refine LX_aload C0 3 d316 rfl ?_
  refine LX_arg C0 hL (j := 1) (t := 0) rfl (by omega) rfl d317 d318 d320 d321 d322 ?_
  refine LX_callV C0 (as := [vi (xs (i + 1))]) (st := []) d323 cv_jCallStepsLaw_45 ⟨by decide, by decide⟩ rfl (Nat.le_of_ble_eq_true rfl) o1 hW (ok_lv o4 (ok_st (l := [xs (i + 1)]) (z := []) (by omega) (fun v hv => by cases hv))) R1 (show mz M1 - 1 + k ≤ 601024 by omega) (show mn M1 + n ≤ 7293034 by omega) (fun _ _ => ?_)
  show LX κ _ (lv0 i) [vi r] M1 k n
  refine LX_aload C0 2 d326 rfl ?_
  refine LX_arg C0 hL (j := 1) (t := 0) rfl (by omega) rfl d327 d328 d330 d331 d332 ?_
  refine LX_callV C0 (as := [vi (xs (i + 1))]) (st := [vi r]) d333 cv_jCallStepsLaw_48 ⟨by decide, by decide⟩ rfl (Nat.le_of_ble_eq_true rfl) kM1 hW1 (ok_lv (by omega) (ok_st (l := [xs (i + 1)]) (z := [vi r]) (by omega) (fun v hv => by rw [List.mem_singleton.mp hv]; trivial))) R2 (show mz M2 - 1 + k ≤ 601024 by omega) (show mn M2 + n ≤ 7293034 by omega) (fun _ _ => ?_)
  show LX κ _ (lv0 i) [vi r, vi r] M2 k n
  exact LX_same C0 d336 rfl (kk M2 hW2 hv2)
theorem ddL_5 : AllD code [(341, .aload_n 1, 1), (342, .aload_n 0, 1), (343, .iload 4, 2), (345, .iconst 1, 1), (346, .iadd, 1), (347, .iaload, 1), (348, .aload_n 0, 1), (349, .iload 4, 2), (351, .iconst 2, 1), (352, .iadd, 1), (353, .iaload, 1), (354, .invokevirtual 49, 3), (357, .aload_n 2, 1), (358, .aload_n 0, 1), (359, .iload 4, 2), (361, .iconst 1, 1), (362, .iadd, 1), (363, .iaload, 1), (364, .aload_n 0, 1), (365, .iload 4, 2), (367, .iconst 2, 1), (368, .iadd, 1), (369, .iaload, 1), (370, .invokevirtual 52, 3), (373, .if_icmp .eq 816, 3), (376, .iconst 0, 1), (377, .ireturn, 1)] := allD_of (by decide +kernel)
theorem law_c5 (C0 : LA κ L xs) (hL : L ≤ 3072) {i : Nat} (hi : i + 6 ≤ L) {M : MM} {k n : Nat} (hW : WF M) (hv : Inv M) (hk : k ≤ 4000) (hn : n ≤ 24000) (kk : ∀ M2, WF M2 → Inv M2 → LX κ 1189 (lv0 i) [] M2 k n) : LX κ 341 (lv0 i) [] M k n := by
  obtain ⟨d341, d342, d343, d345, d346, d347, d348, d349, d351, d352, d353, d354, d357, d358, d359, d361, d362, d363, d364, d365, d367, d368, d369, d370, d373, d376, d377, -⟩ := ddL_5
  obtain ⟨r, M1, M2, b1, b2, hv2⟩ := st_rule (xs (i + 1)) (xs (i + 2)) M hv
  have a1 : f11_rule M 1 (xs (i + 1)) (xs (i + 2)) = some (r, M1) := b1
  have a2 : f12_rule M1 86 (xs (i + 1)) (xs (i + 2)) = some (r, M2) := b2
  obtain ⟨o1, o2, o3, o4, o5, o6⟩ := hv.ok
  obtain ⟨-, -, -, q4, q5, q6⟩ := hv2.ok
  have R1 := T11_rule M 1 (xs (i + 1)) (xs (i + 2)) _ a1
  have g1 := (R1 hW (ok_in (l := [xs (i + 1), xs (i + 2)]) (by omega))).1
  have hW1 : WF M1 := g1.2.1
  have z1 : mz M ≤ mz M1 := g1.1.1
  have R2 := T12_rule M1 86 (xs (i + 1)) (xs (i + 2)) _ a2
  have g2 := (R2 hW1 (ok_in (l := [xs (i + 1), xs (i + 2)]) (by omega))).1
  have hW2 : WF M2 := g2.2.1
  have z2 : mz M1 ≤ mz M2 := g2.1.1
  have y2 : mn M1 ≤ mn M2 := g2.1.2
  have kM1 : (mK M1 86).1 = 15 := by
    unfold f12_rule at a2
    exact aO_k a2
  refine LX_aload C0 3 d341 rfl ?_
  refine LX_arg C0 hL (j := 1) (t := 0) rfl (by omega) rfl d342 d343 d345 d346 d347 ?_
  refine LX_arg C0 hL (j := 2) (t := 0) rfl (by omega) rfl d348 d349 d351 d352 d353 ?_
  refine LX_callV C0 (as := [vi (xs (i + 1)), vi (xs (i + 2))]) (st := []) d354 cv_jCallStepsLaw_49 ⟨by decide, by decide⟩ rfl (Nat.le_of_ble_eq_true rfl) o1 hW (ok_lv o4 (ok_st (l := [xs (i + 2), xs (i + 1)]) (z := []) (by omega) (fun v hv => by cases hv))) R1 (show mz M1 - 1 + k ≤ 601024 by omega) (show mn M1 + n ≤ 7293034 by omega) (fun _ _ => ?_)
  show LX κ _ (lv0 i) [vi r] M1 k n
  refine LX_aload C0 2 d357 rfl ?_
  refine LX_arg C0 hL (j := 1) (t := 0) rfl (by omega) rfl d358 d359 d361 d362 d363 ?_
  refine LX_arg C0 hL (j := 2) (t := 0) rfl (by omega) rfl d364 d365 d367 d368 d369 ?_
  refine LX_callV C0 (as := [vi (xs (i + 1)), vi (xs (i + 2))]) (st := [vi r]) d370 cv_jCallStepsLaw_52 ⟨by decide, by decide⟩ rfl (Nat.le_of_ble_eq_true rfl) kM1 hW1 (ok_lv (by omega) (ok_st (l := [xs (i + 2), xs (i + 1)]) (z := [vi r]) (by omega) (fun v hv => by rw [List.mem_singleton.mp hv]; trivial))) R2 (show mz M2 - 1 + k ≤ 601024 by omega) (show mn M2 + n ≤ 7293034 by omega) (fun _ _ => ?_)
  show LX κ _ (lv0 i) [vi r, vi r] M2 k n
  exact LX_same C0 d373 rfl (kk M2 hW2 hv2)
theorem ddL_6 : AllD code [(378, .aload_n 1, 1), (379, .aload_n 0, 1), (380, .iload 4, 2), (382, .iconst 1, 1), (383, .iadd, 1), (384, .iaload, 1), (385, .aload_n 0, 1), (386, .iload 4, 2), (388, .iconst 2, 1), (389, .iadd, 1), (390, .iaload, 1), (391, .invokevirtual 53, 3), (394, .aload_n 2, 1), (395, .aload_n 0, 1), (396, .iload 4, 2), (398, .iconst 1, 1), (399, .iadd, 1), (400, .iaload, 1), (401, .aload_n 0, 1), (402, .iload 4, 2), (404, .iconst 2, 1), (405, .iadd, 1), (406, .iaload, 1), (407, .invokevirtual 56, 3), (410, .if_icmp .eq 779, 3), (413, .iconst 0, 1), (414, .ireturn, 1)] := allD_of (by decide +kernel)
theorem law_c6 (C0 : LA κ L xs) (hL : L ≤ 3072) {i : Nat} (hi : i + 6 ≤ L) {M : MM} {k n : Nat} (hW : WF M) (hv : Inv M) (hk : k ≤ 4000) (hn : n ≤ 24000) (kk : ∀ M2, WF M2 → Inv M2 → LX κ 1189 (lv0 i) [] M2 k n) : LX κ 378 (lv0 i) [] M k n := by
  obtain ⟨d378, d379, d380, d382, d383, d384, d385, d386, d388, d389, d390, d391, d394, d395, d396, d398, d399, d400, d401, d402, d404, d405, d406, d407, d410, d413, d414, -⟩ := ddL_6
  obtain ⟨r, M1, M2, b1, b2, hv2⟩ := st_goal (xs (i + 1)) (xs (i + 2)) M hv
  have a1 : f11_goal M 1 (xs (i + 1)) (xs (i + 2)) = some (r, M1) := b1
  have a2 : f12_goal M1 86 (xs (i + 1)) (xs (i + 2)) = some (r, M2) := b2
  obtain ⟨o1, o2, o3, o4, o5, o6⟩ := hv.ok
  obtain ⟨-, -, -, q4, q5, q6⟩ := hv2.ok
  have R1 := T11_goal M 1 (xs (i + 1)) (xs (i + 2)) _ a1
  have g1 := (R1 hW (ok_in (l := [xs (i + 1), xs (i + 2)]) (by omega))).1
  have hW1 : WF M1 := g1.2.1
  have z1 : mz M ≤ mz M1 := g1.1.1
  have R2 := T12_goal M1 86 (xs (i + 1)) (xs (i + 2)) _ a2
  have g2 := (R2 hW1 (ok_in (l := [xs (i + 1), xs (i + 2)]) (by omega))).1
  have hW2 : WF M2 := g2.2.1
  have z2 : mz M1 ≤ mz M2 := g2.1.1
  have y2 : mn M1 ≤ mn M2 := g2.1.2
  have kM1 : (mK M1 86).1 = 15 := by
    unfold f12_goal at a2
    exact aO_k a2
  refine LX_aload C0 3 d378 rfl ?_
  refine LX_arg C0 hL (j := 1) (t := 0) rfl (by omega) rfl d379 d380 d382 d383 d384 ?_
  refine LX_arg C0 hL (j := 2) (t := 0) rfl (by omega) rfl d385 d386 d388 d389 d390 ?_
  refine LX_callV C0 (as := [vi (xs (i + 1)), vi (xs (i + 2))]) (st := []) d391 cv_jCallStepsLaw_53 ⟨by decide, by decide⟩ rfl (Nat.le_of_ble_eq_true rfl) o1 hW (ok_lv o4 (ok_st (l := [xs (i + 2), xs (i + 1)]) (z := []) (by omega) (fun v hv => by cases hv))) R1 (show mz M1 - 1 + k ≤ 601024 by omega) (show mn M1 + n ≤ 7293034 by omega) (fun _ _ => ?_)
  show LX κ _ (lv0 i) [vi r] M1 k n
  refine LX_aload C0 2 d394 rfl ?_
  refine LX_arg C0 hL (j := 1) (t := 0) rfl (by omega) rfl d395 d396 d398 d399 d400 ?_
  refine LX_arg C0 hL (j := 2) (t := 0) rfl (by omega) rfl d401 d402 d404 d405 d406 ?_
  refine LX_callV C0 (as := [vi (xs (i + 1)), vi (xs (i + 2))]) (st := [vi r]) d407 cv_jCallStepsLaw_56 ⟨by decide, by decide⟩ rfl (Nat.le_of_ble_eq_true rfl) kM1 hW1 (ok_lv (by omega) (ok_st (l := [xs (i + 2), xs (i + 1)]) (z := [vi r]) (by omega) (fun v hv => by rw [List.mem_singleton.mp hv]; trivial))) R2 (show mz M2 - 1 + k ≤ 601024 by omega) (show mn M2 + n ≤ 7293034 by omega) (fun _ _ => ?_)
  show LX κ _ (lv0 i) [vi r, vi r] M2 k n
  exact LX_same C0 d410 rfl (kk M2 hW2 hv2)
theorem ddL_7 : AllD code [(415, .aload_n 1, 1), (416, .invokevirtual 57, 3), (419, .aload_n 2, 1), (420, .invokevirtual 60, 3), (423, .if_icmp .eq 766, 3), (426, .iconst 0, 1), (427, .ireturn, 1)] := allD_of (by decide +kernel)
theorem law_c7 (C0 : LA κ L xs) (hL : L ≤ 3072) {i : Nat} (hi : i + 6 ≤ L) {M : MM} {k n : Nat} (hW : WF M) (hv : Inv M) (hk : k ≤ 4000) (hn : n ≤ 24000) (kk : ∀ M2, WF M2 → Inv M2 → LX κ 1189 (lv0 i) [] M2 k n) : LX κ 415 (lv0 i) [] M k n := by
  obtain ⟨d415, d416, d419, d420, d423, d426, d427, -⟩ := ddL_7
  obtain ⟨r, M1, M2, b1, b2, hv2⟩ := st_at M hv
  have a1 : f11_at M 1 = some (r, M1) := b1
  have a2 : f12_at M1 86 = some (r, M2) := b2
  obtain ⟨o1, o2, o3, o4, o5, o6⟩ := hv.ok
  obtain ⟨-, -, -, q4, q5, q6⟩ := hv2.ok
  have R1 := T11_at M 1 _ a1
  have g1 := (R1 hW (ok_in (l := []) (by omega))).1
  have hW1 : WF M1 := g1.2.1
  have z1 : mz M ≤ mz M1 := g1.1.1
  have R2 := T12_at M1 86 _ a2
  have g2 := (R2 hW1 (ok_in (l := []) (by omega))).1
  have hW2 : WF M2 := g2.2.1
  have z2 : mz M1 ≤ mz M2 := g2.1.1
  have y2 : mn M1 ≤ mn M2 := g2.1.2
  have kM1 : (mK M1 86).1 = 15 := by
    unfold f12_at at a2
    exact aO_k a2
  refine LX_aload C0 3 d415 rfl ?_
  refine LX_callV C0 (as := []) (st := []) d416 cv_jCallStepsLaw_57 ⟨by decide, by decide⟩ rfl (Nat.le_of_ble_eq_true rfl) o1 hW (ok_lv o4 (ok_st (l := []) (z := []) (by omega) (fun v hv => by cases hv))) R1 (show mz M1 - 1 + k ≤ 601024 by omega) (show mn M1 + n ≤ 7293034 by omega) (fun _ _ => ?_)
  show LX κ _ (lv0 i) [vi r] M1 k n
  refine LX_aload C0 2 d419 rfl ?_
  refine LX_callV C0 (as := []) (st := [vi r]) d420 cv_jCallStepsLaw_60 ⟨by decide, by decide⟩ rfl (Nat.le_of_ble_eq_true rfl) kM1 hW1 (ok_lv (by omega) (ok_st (l := []) (z := [vi r]) (by omega) (fun v hv => by rw [List.mem_singleton.mp hv]; trivial))) R2 (show mz M2 - 1 + k ≤ 601024 by omega) (show mn M2 + n ≤ 7293034 by omega) (fun _ _ => ?_)
  show LX κ _ (lv0 i) [vi r, vi r] M2 k n
  exact LX_same C0 d423 rfl (kk M2 hW2 hv2)
theorem ddL_8 : AllD code [(428, .aload_n 1, 1), (429, .aload_n 0, 1), (430, .iload 4, 2), (432, .iconst 1, 1), (433, .iadd, 1), (434, .iaload, 1), (435, .invokevirtual 61, 3), (438, .aload_n 2, 1), (439, .aload_n 0, 1), (440, .iload 4, 2), (442, .iconst 1, 1), (443, .iadd, 1), (444, .iaload, 1), (445, .invokevirtual 64, 3), (448, .if_icmp .eq 741, 3), (451, .iconst 0, 1), (452, .ireturn, 1)] := allD_of (by decide +kernel)
theorem law_c8 (C0 : LA κ L xs) (hL : L ≤ 3072) {i : Nat} (hi : i + 6 ≤ L) {M : MM} {k n : Nat} (hW : WF M) (hv : Inv M) (hk : k ≤ 4000) (hn : n ≤ 24000) (kk : ∀ M2, WF M2 → Inv M2 → LX κ 1189 (lv0 i) [] M2 k n) : LX κ 428 (lv0 i) [] M k n := by
  obtain ⟨d428, d429, d430, d432, d433, d434, d435, d438, d439, d440, d442, d443, d444, d445, d448, d451, d452, -⟩ := ddL_8
  obtain ⟨r, M1, M2, b1, b2, hv2⟩ := st_now (xs (i + 1)) M hv
  have a1 : f11_now M 1 (xs (i + 1)) = some (r, M1) := b1
  have a2 : f12_now M1 86 (xs (i + 1)) = some (r, M2) := b2
  obtain ⟨o1, o2, o3, o4, o5, o6⟩ := hv.ok
  obtain ⟨-, -, -, q4, q5, q6⟩ := hv2.ok
  have R1 := T11_now M 1 (xs (i + 1)) _ a1
  have g1 := (R1 hW (ok_in (l := [xs (i + 1)]) (by omega))).1
  have hW1 : WF M1 := g1.2.1
  have z1 : mz M ≤ mz M1 := g1.1.1
  have R2 := T12_now M1 86 (xs (i + 1)) _ a2
  have g2 := (R2 hW1 (ok_in (l := [xs (i + 1)]) (by omega))).1
  have hW2 : WF M2 := g2.2.1
  have z2 : mz M1 ≤ mz M2 := g2.1.1
  have y2 : mn M1 ≤ mn M2 := g2.1.2
  have kM1 : (mK M1 86).1 = 15 := by
    unfold f12_now at a2
    exact aO_k a2
  refine LX_aload C0 3 d428 rfl ?_
  refine LX_arg C0 hL (j := 1) (t := 0) rfl (by omega) rfl d429 d430 d432 d433 d434 ?_
  refine LX_callV C0 (as := [vi (xs (i + 1))]) (st := []) d435 cv_jCallStepsLaw_61 ⟨by decide, by decide⟩ rfl (Nat.le_of_ble_eq_true rfl) o1 hW (ok_lv o4 (ok_st (l := [xs (i + 1)]) (z := []) (by omega) (fun v hv => by cases hv))) R1 (show mz M1 - 1 + k ≤ 601024 by omega) (show mn M1 + n ≤ 7293034 by omega) (fun _ _ => ?_)
  show LX κ _ (lv0 i) [vi r] M1 k n
  refine LX_aload C0 2 d438 rfl ?_
  refine LX_arg C0 hL (j := 1) (t := 0) rfl (by omega) rfl d439 d440 d442 d443 d444 ?_
  refine LX_callV C0 (as := [vi (xs (i + 1))]) (st := [vi r]) d445 cv_jCallStepsLaw_64 ⟨by decide, by decide⟩ rfl (Nat.le_of_ble_eq_true rfl) kM1 hW1 (ok_lv (by omega) (ok_st (l := [xs (i + 1)]) (z := [vi r]) (by omega) (fun v hv => by rw [List.mem_singleton.mp hv]; trivial))) R2 (show mz M2 - 1 + k ≤ 601024 by omega) (show mn M2 + n ≤ 7293034 by omega) (fun _ _ => ?_)
  show LX κ _ (lv0 i) [vi r, vi r] M2 k n
  exact LX_same C0 d448 rfl (kk M2 hW2 hv2)
theorem ddL_9 : AllD code [(453, .aload_n 1, 1), (454, .invokevirtual 65, 3), (457, .aload_n 2, 1), (458, .invokevirtual 68, 3), (461, .if_icmp .eq 728, 3), (464, .iconst 0, 1), (465, .ireturn, 1)] := allD_of (by decide +kernel)
theorem law_c9 (C0 : LA κ L xs) (hL : L ≤ 3072) {i : Nat} (hi : i + 6 ≤ L) {M : MM} {k n : Nat} (hW : WF M) (hv : Inv M) (hk : k ≤ 4000) (hn : n ≤ 24000) (kk : ∀ M2, WF M2 → Inv M2 → LX κ 1189 (lv0 i) [] M2 k n) : LX κ 453 (lv0 i) [] M k n := by
  obtain ⟨d453, d454, d457, d458, d461, d464, d465, -⟩ := ddL_9
  obtain ⟨r, M1, M2, b1, b2, hv2⟩ := st_can M hv
  have a1 : f11_can M 1 = some (r, M1) := b1
  have a2 : f12_can M1 86 = some (r, M2) := b2
  obtain ⟨o1, o2, o3, o4, o5, o6⟩ := hv.ok
  obtain ⟨-, -, -, q4, q5, q6⟩ := hv2.ok
  have R1 := T11_can M 1 _ a1
  have g1 := (R1 hW (ok_in (l := []) (by omega))).1
  have hW1 : WF M1 := g1.2.1
  have z1 : mz M ≤ mz M1 := g1.1.1
  have R2 := T12_can M1 86 _ a2
  have g2 := (R2 hW1 (ok_in (l := []) (by omega))).1
  have hW2 : WF M2 := g2.2.1
  have z2 : mz M1 ≤ mz M2 := g2.1.1
  have y2 : mn M1 ≤ mn M2 := g2.1.2
  have kM1 : (mK M1 86).1 = 15 := by
    unfold f12_can at a2
    exact aO_k a2
  refine LX_aload C0 3 d453 rfl ?_
  refine LX_callV C0 (as := []) (st := []) d454 cv_jCallStepsLaw_65 ⟨by decide, by decide⟩ rfl (Nat.le_of_ble_eq_true rfl) o1 hW (ok_lv o4 (ok_st (l := []) (z := []) (by omega) (fun v hv => by cases hv))) R1 (show mz M1 - 1 + k ≤ 601024 by omega) (show mn M1 + n ≤ 7293034 by omega) (fun _ _ => ?_)
  show LX κ _ (lv0 i) [vi r] M1 k n
  refine LX_aload C0 2 d457 rfl ?_
  refine LX_callV C0 (as := []) (st := [vi r]) d458 cv_jCallStepsLaw_68 ⟨by decide, by decide⟩ rfl (Nat.le_of_ble_eq_true rfl) kM1 hW1 (ok_lv (by omega) (ok_st (l := []) (z := [vi r]) (by omega) (fun v hv => by rw [List.mem_singleton.mp hv]; trivial))) R2 (show mz M2 - 1 + k ≤ 601024 by omega) (show mn M2 + n ≤ 7293034 by omega) (fun _ _ => ?_)
  show LX κ _ (lv0 i) [vi r, vi r] M2 k n
  exact LX_same C0 d461 rfl (kk M2 hW2 hv2)
theorem ddL_10 : AllD code [(466, .aload_n 1, 1), (467, .aload_n 0, 1), (468, .iload 4, 2), (470, .iconst 1, 1), (471, .iadd, 1), (472, .iaload, 1), (473, .invokevirtual 69, 3), (476, .aload_n 2, 1), (477, .aload_n 0, 1), (478, .iload 4, 2), (480, .iconst 1, 1), (481, .iadd, 1), (482, .iaload, 1), (483, .invokevirtual 72, 3), (486, .if_icmp .eq 703, 3), (489, .iconst 0, 1), (490, .ireturn, 1)] := allD_of (by decide +kernel)
theorem law_c10 (C0 : LA κ L xs) (hL : L ≤ 3072) {i : Nat} (hi : i + 6 ≤ L) {M : MM} {k n : Nat} (hW : WF M) (hv : Inv M) (hk : k ≤ 4000) (hn : n ≤ 24000) (kk : ∀ M2, WF M2 → Inv M2 → LX κ 1189 (lv0 i) [] M2 k n) : LX κ 466 (lv0 i) [] M k n := by
  obtain ⟨d466, d467, d468, d470, d471, d472, d473, d476, d477, d478, d480, d481, d482, d483, d486, d489, d490, -⟩ := ddL_10
  obtain ⟨r, M1, M2, b1, b2, hv2⟩ := st_step (xs (i + 1)) M hv
  have a1 : f11_step M 1 (xs (i + 1)) = some (r, M1) := b1
  have a2 : f12_step M1 86 (xs (i + 1)) = some (r, M2) := b2
  obtain ⟨o1, o2, o3, o4, o5, o6⟩ := hv.ok
  obtain ⟨-, -, -, q4, q5, q6⟩ := hv2.ok
  have R1 := T11_step M 1 (xs (i + 1)) _ a1
  have g1 := (R1 hW (ok_in (l := [xs (i + 1)]) (by omega))).1
  have hW1 : WF M1 := g1.2.1
  have z1 : mz M ≤ mz M1 := g1.1.1
  have R2 := T12_step M1 86 (xs (i + 1)) _ a2
  have g2 := (R2 hW1 (ok_in (l := [xs (i + 1)]) (by omega))).1
  have hW2 : WF M2 := g2.2.1
  have z2 : mz M1 ≤ mz M2 := g2.1.1
  have y2 : mn M1 ≤ mn M2 := g2.1.2
  have kM1 : (mK M1 86).1 = 15 := by
    unfold f12_step at a2
    exact aO_k a2
  refine LX_aload C0 3 d466 rfl ?_
  refine LX_arg C0 hL (j := 1) (t := 0) rfl (by omega) rfl d467 d468 d470 d471 d472 ?_
  refine LX_callV C0 (as := [vi (xs (i + 1))]) (st := []) d473 cv_jCallStepsLaw_69 ⟨by decide, by decide⟩ rfl (Nat.le_of_ble_eq_true rfl) o1 hW (ok_lv o4 (ok_st (l := [xs (i + 1)]) (z := []) (by omega) (fun v hv => by cases hv))) R1 (show mz M1 - 1 + k ≤ 601024 by omega) (show mn M1 + n ≤ 7293034 by omega) (fun _ _ => ?_)
  show LX κ _ (lv0 i) [vi r] M1 k n
  refine LX_aload C0 2 d476 rfl ?_
  refine LX_arg C0 hL (j := 1) (t := 0) rfl (by omega) rfl d477 d478 d480 d481 d482 ?_
  refine LX_callV C0 (as := [vi (xs (i + 1))]) (st := [vi r]) d483 cv_jCallStepsLaw_72 ⟨by decide, by decide⟩ rfl (Nat.le_of_ble_eq_true rfl) kM1 hW1 (ok_lv (by omega) (ok_st (l := [xs (i + 1)]) (z := [vi r]) (by omega) (fun v hv => by rw [List.mem_singleton.mp hv]; trivial))) R2 (show mz M2 - 1 + k ≤ 601024 by omega) (show mn M2 + n ≤ 7293034 by omega) (fun _ _ => ?_)
  show LX κ _ (lv0 i) [vi r, vi r] M2 k n
  exact LX_same C0 d486 rfl (kk M2 hW2 hv2)
theorem ddL_11 : AllD code [(491, .aload_n 1, 1), (492, .aload_n 0, 1), (493, .iload 4, 2), (495, .iconst 1, 1), (496, .iadd, 1), (497, .iaload, 1), (498, .aload_n 0, 1), (499, .iload 4, 2), (501, .iconst 2, 1), (502, .iadd, 1), (503, .iaload, 1), (504, .invokevirtual 73, 3), (507, .aload_n 2, 1), (508, .aload_n 0, 1), (509, .iload 4, 2), (511, .iconst 1, 1), (512, .iadd, 1), (513, .iaload, 1), (514, .aload_n 0, 1), (515, .iload 4, 2), (517, .iconst 2, 1), (518, .iadd, 1), (519, .iaload, 1), (520, .invokevirtual 76, 3), (523, .if_icmp .eq 666, 3), (526, .iconst 0, 1), (527, .ireturn, 1)] := allD_of (by decide +kernel)
theorem law_c11 (C0 : LA κ L xs) (hL : L ≤ 3072) {i : Nat} (hi : i + 6 ≤ L) {M : MM} {k n : Nat} (hW : WF M) (hv : Inv M) (hk : k ≤ 4000) (hn : n ≤ 24000) (kk : ∀ M2, WF M2 → Inv M2 → LX κ 1189 (lv0 i) [] M2 k n) : LX κ 491 (lv0 i) [] M k n := by
  obtain ⟨d491, d492, d493, d495, d496, d497, d498, d499, d501, d502, d503, d504, d507, d508, d509, d511, d512, d513, d514, d515, d517, d518, d519, d520, d523, d526, d527, -⟩ := ddL_11
  obtain ⟨r, M1, M2, b1, b2, hv2⟩ := st_run (xs (i + 1)) (xs (i + 2)) M hv
  have a1 : f11_run M 1 (xs (i + 1)) (xs (i + 2)) = some (r, M1) := b1
  have a2 : f12_run M1 86 (xs (i + 1)) (xs (i + 2)) = some (r, M2) := b2
  obtain ⟨o1, o2, o3, o4, o5, o6⟩ := hv.ok
  obtain ⟨-, -, -, q4, q5, q6⟩ := hv2.ok
  have R1 := T11_run M 1 (xs (i + 1)) (xs (i + 2)) _ a1
  have g1 := (R1 hW (ok_in (l := [xs (i + 1), xs (i + 2)]) (by omega))).1
  have hW1 : WF M1 := g1.2.1
  have z1 : mz M ≤ mz M1 := g1.1.1
  have R2 := T12_run M1 86 (xs (i + 1)) (xs (i + 2)) _ a2
  have g2 := (R2 hW1 (ok_in (l := [xs (i + 1), xs (i + 2)]) (by omega))).1
  have hW2 : WF M2 := g2.2.1
  have z2 : mz M1 ≤ mz M2 := g2.1.1
  have y2 : mn M1 ≤ mn M2 := g2.1.2
  have kM1 : (mK M1 86).1 = 15 := by
    unfold f12_run at a2
    exact aO_k a2
  refine LX_aload C0 3 d491 rfl ?_
  refine LX_arg C0 hL (j := 1) (t := 0) rfl (by omega) rfl d492 d493 d495 d496 d497 ?_
  refine LX_arg C0 hL (j := 2) (t := 0) rfl (by omega) rfl d498 d499 d501 d502 d503 ?_
  refine LX_callV C0 (as := [vi (xs (i + 1)), vi (xs (i + 2))]) (st := []) d504 cv_jCallStepsLaw_73 ⟨by decide, by decide⟩ rfl (Nat.le_of_ble_eq_true rfl) o1 hW (ok_lv o4 (ok_st (l := [xs (i + 2), xs (i + 1)]) (z := []) (by omega) (fun v hv => by cases hv))) R1 (show mz M1 - 1 + k ≤ 601024 by omega) (show mn M1 + n ≤ 7293034 by omega) (fun _ _ => ?_)
  show LX κ _ (lv0 i) [vi r] M1 k n
  refine LX_aload C0 2 d507 rfl ?_
  refine LX_arg C0 hL (j := 1) (t := 0) rfl (by omega) rfl d508 d509 d511 d512 d513 ?_
  refine LX_arg C0 hL (j := 2) (t := 0) rfl (by omega) rfl d514 d515 d517 d518 d519 ?_
  refine LX_callV C0 (as := [vi (xs (i + 1)), vi (xs (i + 2))]) (st := [vi r]) d520 cv_jCallStepsLaw_76 ⟨by decide, by decide⟩ rfl (Nat.le_of_ble_eq_true rfl) kM1 hW1 (ok_lv (by omega) (ok_st (l := [xs (i + 2), xs (i + 1)]) (z := [vi r]) (by omega) (fun v hv => by rw [List.mem_singleton.mp hv]; trivial))) R2 (show mz M2 - 1 + k ≤ 601024 by omega) (show mn M2 + n ≤ 7293034 by omega) (fun _ _ => ?_)
  show LX κ _ (lv0 i) [vi r, vi r] M2 k n
  exact LX_same C0 d523 rfl (kk M2 hW2 hv2)
theorem ddL_12 : AllD code [(528, .aload_n 1, 1), (529, .invokevirtual 77, 3), (532, .aload_n 2, 1), (533, .invokevirtual 81, 3), (536, .if_icmp .eq 653, 3), (539, .iconst 0, 1), (540, .ireturn, 1)] := allD_of (by decide +kernel)
theorem law_c12 (C0 : LA κ L xs) (hL : L ≤ 3072) {i : Nat} (hi : i + 6 ≤ L) {M : MM} {k n : Nat} (hW : WF M) (hv : Inv M) (hk : k ≤ 4000) (hn : n ≤ 24000) (kk : ∀ M2, WF M2 → Inv M2 → LX κ 1189 (lv0 i) [] M2 k n) : LX κ 528 (lv0 i) [] M k n := by
  obtain ⟨d528, d529, d532, d533, d536, d539, d540, -⟩ := ddL_12
  obtain ⟨r, M1, M2, b1, b2, hv2⟩ := st_undo M hv
  have a1 : f11_undo M 1 = some (r, M1) := b1
  have a2 : f12_undo M1 86 = some (r, M2) := b2
  obtain ⟨o1, o2, o3, o4, o5, o6⟩ := hv.ok
  obtain ⟨-, -, -, q4, q5, q6⟩ := hv2.ok
  have R1 := T11_undo M 1 _ a1
  have g1 := (R1 hW (ok_in (l := []) (by omega))).1
  have hW1 : WF M1 := g1.2.1
  have z1 : mz M ≤ mz M1 := g1.1.1
  have R2 := T12_undo M1 86 _ a2
  have g2 := (R2 hW1 (ok_in (l := []) (by omega))).1
  have hW2 : WF M2 := g2.2.1
  have z2 : mz M1 ≤ mz M2 := g2.1.1
  have y2 : mn M1 ≤ mn M2 := g2.1.2
  have kM1 : (mK M1 86).1 = 15 := by
    unfold f12_undo at a2
    exact aO_k a2
  refine LX_aload C0 3 d528 rfl ?_
  refine LX_callV C0 (as := []) (st := []) d529 cv_jCallStepsLaw_77 ⟨by decide, by decide⟩ rfl (Nat.le_of_ble_eq_true rfl) o1 hW (ok_lv o4 (ok_st (l := []) (z := []) (by omega) (fun v hv => by cases hv))) R1 (show mz M1 - 1 + k ≤ 601024 by omega) (show mn M1 + n ≤ 7293034 by omega) (fun _ _ => ?_)
  show LX κ _ (lv0 i) [vi r] M1 k n
  refine LX_aload C0 2 d532 rfl ?_
  refine LX_callV C0 (as := []) (st := [vi r]) d533 cv_jCallStepsLaw_81 ⟨by decide, by decide⟩ rfl (Nat.le_of_ble_eq_true rfl) kM1 hW1 (ok_lv (by omega) (ok_st (l := []) (z := [vi r]) (by omega) (fun v hv => by rw [List.mem_singleton.mp hv]; trivial))) R2 (show mz M2 - 1 + k ≤ 601024 by omega) (show mn M2 + n ≤ 7293034 by omega) (fun _ _ => ?_)
  show LX κ _ (lv0 i) [vi r, vi r] M2 k n
  exact LX_same C0 d536 rfl (kk M2 hW2 hv2)
theorem ddL_13 : AllD code [(541, .aload_n 1, 1), (542, .invokevirtual 82, 3), (545, .aload_n 2, 1), (546, .invokevirtual 86, 3), (549, .lcmp, 1), (550, .ifCond .eq 639, 3), (553, .iconst 0, 1), (554, .ireturn, 1)] := allD_of (by decide +kernel)
theorem law_c13 (C0 : LA κ L xs) (hL : L ≤ 3072) {i : Nat} (hi : i + 6 ≤ L) {M : MM} {k n : Nat} (hW : WF M) (hv : Inv M) (hk : k ≤ 4000) (hn : n ≤ 24000) (kk : ∀ M2, WF M2 → Inv M2 → LX κ 1189 (lv0 i) [] M2 k n) : LX κ 541 (lv0 i) [] M k n := by
  obtain ⟨d541, d542, d545, d546, d549, d550, d553, d554, -⟩ := ddL_13
  obtain ⟨r, M1, M2, b1, b2, hv2⟩ := st_cost M hv
  have a1 : f11_cost M 1 = some (r, M1) := b1
  have a2 : f12_cost M1 86 = some (r, M2) := b2
  obtain ⟨o1, o2, o3, o4, o5, o6⟩ := hv.ok
  obtain ⟨-, -, -, q4, q5, q6⟩ := hv2.ok
  have R1 := T11_cost M 1 _ a1
  have g1 := (R1 hW (ok_in (l := []) (by omega))).1
  have hW1 : WF M1 := g1.2.1
  have z1 : mz M ≤ mz M1 := g1.1.1
  have R2 := T12_cost M1 86 _ a2
  have g2 := (R2 hW1 (ok_in (l := []) (by omega))).1
  have hW2 : WF M2 := g2.2.1
  have z2 : mz M1 ≤ mz M2 := g2.1.1
  have y2 : mn M1 ≤ mn M2 := g2.1.2
  have kM1 : (mK M1 86).1 = 15 := by
    unfold f12_cost at a2
    exact aO_k a2
  refine LX_aload C0 3 d541 rfl ?_
  refine LX_callV C0 (as := []) (st := []) d542 cv_jCallStepsLaw_82 ⟨by decide, by decide⟩ rfl (Nat.le_of_ble_eq_true rfl) o1 hW (ok_lv o4 (ok_st (l := []) (z := []) (by omega) (fun v hv => by cases hv))) R1 (show mz M1 - 1 + k ≤ 601024 by omega) (show mn M1 + n ≤ 7293034 by omega) (fun _ _ => ?_)
  show LX κ _ (lv0 i) [vl r] M1 k n
  refine LX_aload C0 2 d545 rfl ?_
  refine LX_callV C0 (as := []) (st := [vl r]) d546 cv_jCallStepsLaw_86 ⟨by decide, by decide⟩ rfl (Nat.le_of_ble_eq_true rfl) kM1 hW1 (ok_lv (by omega) (ok_st (l := []) (z := [vl r]) (by omega) (fun v hv => by rw [List.mem_singleton.mp hv]; trivial))) R2 (show mz M2 - 1 + k ≤ 601024 by omega) (show mn M2 + n ≤ 7293034 by omega) (fun _ _ => ?_)
  show LX κ _ (lv0 i) [vl r, vl r] M2 k n
  exact LX_lsame C0 d549 d550 rfl (kk M2 hW2 hv2)
theorem ddL_14 : AllD code [(555, .aload_n 1, 1), (556, .aload_n 0, 1), (557, .iload 4, 2), (559, .iconst 1, 1), (560, .iadd, 1), (561, .iaload, 1), (562, .invokevirtual 87, 3), (565, .aload_n 2, 1), (566, .aload_n 0, 1), (567, .iload 4, 2), (569, .iconst 1, 1), (570, .iadd, 1), (571, .iaload, 1), (572, .invokevirtual 90, 3), (575, .if_icmp .eq 614, 3), (578, .iconst 0, 1), (579, .ireturn, 1)] := allD_of (by decide +kernel)
theorem law_c14 (C0 : LA κ L xs) (hL : L ≤ 3072) {i : Nat} (hi : i + 6 ≤ L) {M : MM} {k n : Nat} (hW : WF M) (hv : Inv M) (hk : k ≤ 4000) (hn : n ≤ 24000) (kk : ∀ M2, WF M2 → Inv M2 → LX κ 1189 (lv0 i) [] M2 k n) : LX κ 555 (lv0 i) [] M k n := by
  obtain ⟨d555, d556, d557, d559, d560, d561, d562, d565, d566, d567, d569, d570, d571, d572, d575, d578, d579, -⟩ := ddL_14
  obtain ⟨r, M1, M2, b1, b2, hv2⟩ := st_way (xs (i + 1)) M hv
  have a1 : f11_way M 1 (xs (i + 1)) = some (r, M1) := b1
  have a2 : f12_way M1 86 (xs (i + 1)) = some (r, M2) := b2
  obtain ⟨o1, o2, o3, o4, o5, o6⟩ := hv.ok
  obtain ⟨-, -, -, q4, q5, q6⟩ := hv2.ok
  have R1 := T11_way M 1 (xs (i + 1)) _ a1
  have g1 := (R1 hW (ok_in (l := [xs (i + 1)]) (by omega))).1
  have hW1 : WF M1 := g1.2.1
  have z1 : mz M ≤ mz M1 := g1.1.1
  have R2 := T12_way M1 86 (xs (i + 1)) _ a2
  have g2 := (R2 hW1 (ok_in (l := [xs (i + 1)]) (by omega))).1
  have hW2 : WF M2 := g2.2.1
  have z2 : mz M1 ≤ mz M2 := g2.1.1
  have y2 : mn M1 ≤ mn M2 := g2.1.2
  have kM1 : (mK M1 86).1 = 15 := by
    unfold f12_way at a2
    exact aO_k a2
  refine LX_aload C0 3 d555 rfl ?_
  refine LX_arg C0 hL (j := 1) (t := 0) rfl (by omega) rfl d556 d557 d559 d560 d561 ?_
  refine LX_callV C0 (as := [vi (xs (i + 1))]) (st := []) d562 cv_jCallStepsLaw_87 ⟨by decide, by decide⟩ rfl (Nat.le_of_ble_eq_true rfl) o1 hW (ok_lv o4 (ok_st (l := [xs (i + 1)]) (z := []) (by omega) (fun v hv => by cases hv))) R1 (show mz M1 - 1 + k ≤ 601024 by omega) (show mn M1 + n ≤ 7293034 by omega) (fun _ _ => ?_)
  show LX κ _ (lv0 i) [vi r] M1 k n
  refine LX_aload C0 2 d565 rfl ?_
  refine LX_arg C0 hL (j := 1) (t := 0) rfl (by omega) rfl d566 d567 d569 d570 d571 ?_
  refine LX_callV C0 (as := [vi (xs (i + 1))]) (st := [vi r]) d572 cv_jCallStepsLaw_90 ⟨by decide, by decide⟩ rfl (Nat.le_of_ble_eq_true rfl) kM1 hW1 (ok_lv (by omega) (ok_st (l := [xs (i + 1)]) (z := [vi r]) (by omega) (fun v hv => by rw [List.mem_singleton.mp hv]; trivial))) R2 (show mz M2 - 1 + k ≤ 601024 by omega) (show mn M2 + n ≤ 7293034 by omega) (fun _ _ => ?_)
  show LX κ _ (lv0 i) [vi r, vi r] M2 k n
  exact LX_same C0 d575 rfl (kk M2 hW2 hv2)
theorem ddL_15 : AllD code [(580, .aload_n 1, 1), (581, .aload_n 0, 1), (582, .iload 4, 2), (584, .iconst 1, 1), (585, .iadd, 1), (586, .iaload, 1), (587, .aload_n 0, 1), (588, .iload 4, 2), (590, .iconst 2, 1), (591, .iadd, 1), (592, .iaload, 1), (593, .aload_n 0, 1), (594, .iload 4, 2), (596, .iconst 3, 1), (597, .iadd, 1), (598, .iaload, 1), (599, .aload_n 3, 1), (600, .invokestatic 91, 3), (603, .istore 5, 2), (605, .aload_n 2, 1), (606, .aload_n 0, 1), (607, .iload 4, 2), (609, .iconst 1, 1), (610, .iadd, 1), (611, .iaload, 1), (612, .aload_n 0, 1), (613, .iload 4, 2), (615, .iconst 2, 1), (616, .iadd, 1), (617, .iaload, 1), (618, .aload_n 0, 1), (619, .iload 4, 2), (621, .iconst 3, 1), (622, .iadd, 1), (623, .iaload, 1), (624, .invokevirtual 96, 3), (627, .lstore 6, 2), (629, .aload_n 2, 1), (630, .invokevirtual 97, 3), (633, .iload 5, 2), (635, .if_icmp .eq 5, 3), (638, .iconst 0, 1), (639, .ireturn, 1), (640, .iload 5, 2), (642, .ifCond .ne 14, 3), (645, .aload_n 3, 1), (646, .iconst 0, 1), (647, .laload, 1), (648, .lload 6, 2), (650, .lcmp, 1), (651, .ifCond .eq 5, 3), (654, .iconst 0, 1), (655, .ireturn, 1), (656, .goto 533, 3)] := allD_of (by decide +kernel)
theorem ddL_16 : AllD code [(659, .aload_n 1, 1), (660, .aload_n 0, 1), (661, .iload 4, 2), (663, .iconst 1, 1), (664, .iadd, 1), (665, .iaload, 1), (666, .invokevirtual 100, 3), (669, .aload_n 2, 1), (670, .aload_n 0, 1), (671, .iload 4, 2), (673, .iconst 1, 1), (674, .iadd, 1), (675, .iaload, 1), (676, .invokevirtual 104, 3), (679, .lcmp, 1), (680, .ifCond .eq 509, 3), (683, .iconst 0, 1), (684, .ireturn, 1)] := allD_of (by decide +kernel)
theorem law_c16 (C0 : LA κ L xs) (hL : L ≤ 3072) {i : Nat} (hi : i + 6 ≤ L) {M : MM} {k n : Nat} (hW : WF M) (hv : Inv M) (hk : k ≤ 4000) (hn : n ≤ 24000) (kk : ∀ M2, WF M2 → Inv M2 → LX κ 1189 (lv0 i) [] M2 k n) : LX κ 659 (lv0 i) [] M k n := by
  obtain ⟨d659, d660, d661, d663, d664, d665, d666, d669, d670, d671, d673, d674, d675, d676, d679, d680, d683, d684, -⟩ := ddL_16
  obtain ⟨r, M1, M2, b1, b2, hv2⟩ := st_matters (xs (i + 1)) M hv
  have a1 : f11_matters M 1 (xs (i + 1)) = some (r, M1) := b1
  have a2 : f12_matters M1 86 (xs (i + 1)) = some (r, M2) := b2
  obtain ⟨o1, o2, o3, o4, o5, o6⟩ := hv.ok
  obtain ⟨-, -, -, q4, q5, q6⟩ := hv2.ok
  have R1 := T11_matters M 1 (xs (i + 1)) _ a1
  have g1 := (R1 hW (ok_in (l := [xs (i + 1)]) (by omega))).1
  have hW1 : WF M1 := g1.2.1
  have z1 : mz M ≤ mz M1 := g1.1.1
  have R2 := T12_matters M1 86 (xs (i + 1)) _ a2
  have g2 := (R2 hW1 (ok_in (l := [xs (i + 1)]) (by omega))).1
  have hW2 : WF M2 := g2.2.1
  have z2 : mz M1 ≤ mz M2 := g2.1.1
  have y2 : mn M1 ≤ mn M2 := g2.1.2
  have kM1 : (mK M1 86).1 = 15 := by
    unfold f12_matters at a2
    exact aO_k a2
  refine LX_aload C0 3 d659 rfl ?_
  refine LX_arg C0 hL (j := 1) (t := 0) rfl (by omega) rfl d660 d661 d663 d664 d665 ?_
  refine LX_callV C0 (as := [vi (xs (i + 1))]) (st := []) d666 cv_jCallStepsLaw_100 ⟨by decide, by decide⟩ rfl (Nat.le_of_ble_eq_true rfl) o1 hW (ok_lv o4 (ok_st (l := [xs (i + 1)]) (z := []) (by omega) (fun v hv => by cases hv))) R1 (show mz M1 - 1 + k ≤ 601024 by omega) (show mn M1 + n ≤ 7293034 by omega) (fun _ _ => ?_)
  show LX κ _ (lv0 i) [vl r] M1 k n
  refine LX_aload C0 2 d669 rfl ?_
  refine LX_arg C0 hL (j := 1) (t := 0) rfl (by omega) rfl d670 d671 d673 d674 d675 ?_
  refine LX_callV C0 (as := [vi (xs (i + 1))]) (st := [vl r]) d676 cv_jCallStepsLaw_104 ⟨by decide, by decide⟩ rfl (Nat.le_of_ble_eq_true rfl) kM1 hW1 (ok_lv (by omega) (ok_st (l := [xs (i + 1)]) (z := [vl r]) (by omega) (fun v hv => by rw [List.mem_singleton.mp hv]; trivial))) R2 (show mz M2 - 1 + k ≤ 601024 by omega) (show mn M2 + n ≤ 7293034 by omega) (fun _ _ => ?_)
  show LX κ _ (lv0 i) [vl r, vl r] M2 k n
  exact LX_lsame C0 d679 d680 rfl (kk M2 hW2 hv2)
theorem ddL_17 : AllD code [(685, .aload_n 1, 1), (686, .aload_n 0, 1), (687, .iload 4, 2), (689, .iconst 1, 1), (690, .iadd, 1), (691, .iaload, 1), (692, .aload_n 0, 1), (693, .iload 4, 2), (695, .iconst 2, 1), (696, .iadd, 1), (697, .iaload, 1), (698, .invokevirtual 105, 3), (701, .aload_n 2, 1), (702, .aload_n 0, 1), (703, .iload 4, 2), (705, .iconst 1, 1), (706, .iadd, 1), (707, .iaload, 1), (708, .aload_n 0, 1), (709, .iload 4, 2), (711, .iconst 2, 1), (712, .iadd, 1), (713, .iaload, 1), (714, .invokevirtual 109, 3), (717, .lcmp, 1), (718, .ifCond .eq 471, 3), (721, .iconst 0, 1), (722, .ireturn, 1)] := allD_of (by decide +kernel)
theorem law_c17 (C0 : LA κ L xs) (hL : L ≤ 3072) {i : Nat} (hi : i + 6 ≤ L) {M : MM} {k n : Nat} (hW : WF M) (hv : Inv M) (hk : k ≤ 4000) (hn : n ≤ 24000) (kk : ∀ M2, WF M2 → Inv M2 → LX κ 1189 (lv0 i) [] M2 k n) : LX κ 685 (lv0 i) [] M k n := by
  obtain ⟨d685, d686, d687, d689, d690, d691, d692, d693, d695, d696, d697, d698, d701, d702, d703, d705, d706, d707, d708, d709, d711, d712, d713, d714, d717, d718, d721, d722, -⟩ := ddL_17
  obtain ⟨r, M1, M2, b1, b2, hv2⟩ := st_comes (xs (i + 1)) (xs (i + 2)) M hv
  have a1 : f11_comes M 1 (xs (i + 1)) (xs (i + 2)) = some (r, M1) := b1
  have a2 : f12_comes M1 86 (xs (i + 1)) (xs (i + 2)) = some (r, M2) := b2
  obtain ⟨o1, o2, o3, o4, o5, o6⟩ := hv.ok
  obtain ⟨-, -, -, q4, q5, q6⟩ := hv2.ok
  have R1 := T11_comes M 1 (xs (i + 1)) (xs (i + 2)) _ a1
  have g1 := (R1 hW (ok_in (l := [xs (i + 1), xs (i + 2)]) (by omega))).1
  have hW1 : WF M1 := g1.2.1
  have z1 : mz M ≤ mz M1 := g1.1.1
  have R2 := T12_comes M1 86 (xs (i + 1)) (xs (i + 2)) _ a2
  have g2 := (R2 hW1 (ok_in (l := [xs (i + 1), xs (i + 2)]) (by omega))).1
  have hW2 : WF M2 := g2.2.1
  have z2 : mz M1 ≤ mz M2 := g2.1.1
  have y2 : mn M1 ≤ mn M2 := g2.1.2
  have kM1 : (mK M1 86).1 = 15 := by
    unfold f12_comes at a2
    exact aO_k a2
  refine LX_aload C0 3 d685 rfl ?_
  refine LX_arg C0 hL (j := 1) (t := 0) rfl (by omega) rfl d686 d687 d689 d690 d691 ?_
  refine LX_arg C0 hL (j := 2) (t := 0) rfl (by omega) rfl d692 d693 d695 d696 d697 ?_
  refine LX_callV C0 (as := [vi (xs (i + 1)), vi (xs (i + 2))]) (st := []) d698 cv_jCallStepsLaw_105 ⟨by decide, by decide⟩ rfl (Nat.le_of_ble_eq_true rfl) o1 hW (ok_lv o4 (ok_st (l := [xs (i + 2), xs (i + 1)]) (z := []) (by omega) (fun v hv => by cases hv))) R1 (show mz M1 - 1 + k ≤ 601024 by omega) (show mn M1 + n ≤ 7293034 by omega) (fun _ _ => ?_)
  show LX κ _ (lv0 i) [vl r] M1 k n
  refine LX_aload C0 2 d701 rfl ?_
  refine LX_arg C0 hL (j := 1) (t := 0) rfl (by omega) rfl d702 d703 d705 d706 d707 ?_
  refine LX_arg C0 hL (j := 2) (t := 0) rfl (by omega) rfl d708 d709 d711 d712 d713 ?_
  refine LX_callV C0 (as := [vi (xs (i + 1)), vi (xs (i + 2))]) (st := [vl r]) d714 cv_jCallStepsLaw_109 ⟨by decide, by decide⟩ rfl (Nat.le_of_ble_eq_true rfl) kM1 hW1 (ok_lv (by omega) (ok_st (l := [xs (i + 2), xs (i + 1)]) (z := [vl r]) (by omega) (fun v hv => by rw [List.mem_singleton.mp hv]; trivial))) R2 (show mz M2 - 1 + k ≤ 601024 by omega) (show mn M2 + n ≤ 7293034 by omega) (fun _ _ => ?_)
  show LX κ _ (lv0 i) [vl r, vl r] M2 k n
  exact LX_lsame C0 d717 d718 rfl (kk M2 hW2 hv2)
theorem ddL_18 : AllD code [(723, .aload_n 1, 1), (724, .invokevirtual 110, 3), (727, .aload_n 2, 1), (728, .invokevirtual 113, 3), (731, .if_icmp .eq 458, 3), (734, .iconst 0, 1), (735, .ireturn, 1)] := allD_of (by decide +kernel)
theorem law_c18 (C0 : LA κ L xs) (hL : L ≤ 3072) {i : Nat} (hi : i + 6 ≤ L) {M : MM} {k n : Nat} (hW : WF M) (hv : Inv M) (hk : k ≤ 4000) (hn : n ≤ 24000) (kk : ∀ M2, WF M2 → Inv M2 → LX κ 1189 (lv0 i) [] M2 k n) : LX κ 723 (lv0 i) [] M k n := by
  obtain ⟨d723, d724, d727, d728, d731, d734, d735, -⟩ := ddL_18
  obtain ⟨r, M1, M2, b1, b2, hv2⟩ := st_height M hv
  have a1 : f11_height M 1 = some (r, M1) := b1
  have a2 : f12_height M1 86 = some (r, M2) := b2
  obtain ⟨o1, o2, o3, o4, o5, o6⟩ := hv.ok
  obtain ⟨-, -, -, q4, q5, q6⟩ := hv2.ok
  have R1 := T11_height M 1 _ a1
  have g1 := (R1 hW (ok_in (l := []) (by omega))).1
  have hW1 : WF M1 := g1.2.1
  have z1 : mz M ≤ mz M1 := g1.1.1
  have R2 := T12_height M1 86 _ a2
  have g2 := (R2 hW1 (ok_in (l := []) (by omega))).1
  have hW2 : WF M2 := g2.2.1
  have z2 : mz M1 ≤ mz M2 := g2.1.1
  have y2 : mn M1 ≤ mn M2 := g2.1.2
  have kM1 : (mK M1 86).1 = 15 := by
    unfold f12_height at a2
    exact aO_k a2
  refine LX_aload C0 3 d723 rfl ?_
  refine LX_callV C0 (as := []) (st := []) d724 cv_jCallStepsLaw_110 ⟨by decide, by decide⟩ rfl (Nat.le_of_ble_eq_true rfl) o1 hW (ok_lv o4 (ok_st (l := []) (z := []) (by omega) (fun v hv => by cases hv))) R1 (show mz M1 - 1 + k ≤ 601024 by omega) (show mn M1 + n ≤ 7293034 by omega) (fun _ _ => ?_)
  show LX κ _ (lv0 i) [vi r] M1 k n
  refine LX_aload C0 2 d727 rfl ?_
  refine LX_callV C0 (as := []) (st := [vi r]) d728 cv_jCallStepsLaw_113 ⟨by decide, by decide⟩ rfl (Nat.le_of_ble_eq_true rfl) kM1 hW1 (ok_lv (by omega) (ok_st (l := []) (z := [vi r]) (by omega) (fun v hv => by rw [List.mem_singleton.mp hv]; trivial))) R2 (show mz M2 - 1 + k ≤ 601024 by omega) (show mn M2 + n ≤ 7293034 by omega) (fun _ _ => ?_)
  show LX κ _ (lv0 i) [vi r, vi r] M2 k n
  exact LX_same C0 d731 rfl (kk M2 hW2 hv2)
theorem ddL_19 : AllD code [(736, .aload_n 1, 1), (737, .aload_n 0, 1), (738, .iload 4, 2), (740, .iconst 1, 1), (741, .iadd, 1), (742, .iaload, 1), (743, .aload_n 0, 1), (744, .iload 4, 2), (746, .iconst 2, 1), (747, .iadd, 1), (748, .iaload, 1), (749, .aload_n 3, 1), (750, .invokestatic 114, 3), (753, .istore 5, 2), (755, .aload_n 2, 1), (756, .aload_n 0, 1), (757, .iload 4, 2), (759, .iconst 1, 1), (760, .iadd, 1), (761, .iaload, 1), (762, .aload_n 0, 1), (763, .iload 4, 2), (765, .iconst 2, 1), (766, .iadd, 1), (767, .iaload, 1), (768, .invokevirtual 117, 3), (771, .istore 6, 2), (773, .aload_n 2, 1), (774, .invokevirtual 97, 3), (777, .iload 5, 2), (779, .if_icmp .eq 5, 3), (782, .iconst 0, 1), (783, .ireturn, 1), (784, .iload 5, 2), (786, .ifCond .ne 15, 3), (789, .aload_n 3, 1), (790, .iconst 0, 1), (791, .laload, 1), (792, .iload 6, 2), (794, .i2l, 1), (795, .lcmp, 1), (796, .ifCond .eq 5, 3), (799, .iconst 0, 1), (800, .ireturn, 1), (801, .goto 388, 3)] := allD_of (by decide +kernel)
theorem ddL_20 : AllD code [(804, .aload_n 1, 1), (805, .aload_n 0, 1), (806, .iload 4, 2), (808, .iconst 1, 1), (809, .iadd, 1), (810, .iaload, 1), (811, .aload_n 0, 1), (812, .iload 4, 2), (814, .iconst 2, 1), (815, .iadd, 1), (816, .iaload, 1), (817, .aload_n 3, 1), (818, .invokestatic 118, 3), (821, .istore 5, 2), (823, .aload_n 2, 1), (824, .aload_n 0, 1), (825, .iload 4, 2), (827, .iconst 1, 1), (828, .iadd, 1), (829, .iaload, 1), (830, .aload_n 0, 1), (831, .iload 4, 2), (833, .iconst 2, 1), (834, .iadd, 1), (835, .iaload, 1), (836, .invokevirtual 120, 3), (839, .istore 6, 2), (841, .aload_n 2, 1), (842, .invokevirtual 97, 3), (845, .iload 5, 2), (847, .if_icmp .eq 5, 3), (850, .iconst 0, 1), (851, .ireturn, 1), (852, .iload 5, 2), (854, .ifCond .ne 15, 3), (857, .aload_n 3, 1), (858, .iconst 0, 1), (859, .laload, 1), (860, .iload 6, 2), (862, .i2l, 1), (863, .lcmp, 1), (864, .ifCond .eq 5, 3), (867, .iconst 0, 1), (868, .ireturn, 1), (869, .goto 320, 3)] := allD_of (by decide +kernel)
theorem ddL_21 : AllD code [(872, .aload_n 1, 1), (873, .invokevirtual 121, 3), (876, .aload_n 2, 1), (877, .invokevirtual 124, 3), (880, .if_icmp .eq 309, 3), (883, .iconst 0, 1), (884, .ireturn, 1)] := allD_of (by decide +kernel)
theorem law_c21 (C0 : LA κ L xs) (hL : L ≤ 3072) {i : Nat} (hi : i + 6 ≤ L) {M : MM} {k n : Nat} (hW : WF M) (hv : Inv M) (hk : k ≤ 4000) (hn : n ≤ 24000) (kk : ∀ M2, WF M2 → Inv M2 → LX κ 1189 (lv0 i) [] M2 k n) : LX κ 872 (lv0 i) [] M k n := by
  obtain ⟨d872, d873, d876, d877, d880, d883, d884, -⟩ := ddL_21
  obtain ⟨r, M1, M2, b1, b2, hv2⟩ := st_endless M hv
  have a1 : f11_endless M 1 = some (r, M1) := b1
  have a2 : f12_endless M1 86 = some (r, M2) := b2
  obtain ⟨o1, o2, o3, o4, o5, o6⟩ := hv.ok
  obtain ⟨-, -, -, q4, q5, q6⟩ := hv2.ok
  have R1 := T11_endless M 1 _ a1
  have g1 := (R1 hW (ok_in (l := []) (by omega))).1
  have hW1 : WF M1 := g1.2.1
  have z1 : mz M ≤ mz M1 := g1.1.1
  have R2 := T12_endless M1 86 _ a2
  have g2 := (R2 hW1 (ok_in (l := []) (by omega))).1
  have hW2 : WF M2 := g2.2.1
  have z2 : mz M1 ≤ mz M2 := g2.1.1
  have y2 : mn M1 ≤ mn M2 := g2.1.2
  have kM1 : (mK M1 86).1 = 15 := by
    unfold f12_endless at a2
    exact aO_k a2
  refine LX_aload C0 3 d872 rfl ?_
  refine LX_callV C0 (as := []) (st := []) d873 cv_jCallStepsLaw_121 ⟨by decide, by decide⟩ rfl (Nat.le_of_ble_eq_true rfl) o1 hW (ok_lv o4 (ok_st (l := []) (z := []) (by omega) (fun v hv => by cases hv))) R1 (show mz M1 - 1 + k ≤ 601024 by omega) (show mn M1 + n ≤ 7293034 by omega) (fun _ _ => ?_)
  show LX κ _ (lv0 i) [vi r] M1 k n
  refine LX_aload C0 2 d876 rfl ?_
  refine LX_callV C0 (as := []) (st := [vi r]) d877 cv_jCallStepsLaw_124 ⟨by decide, by decide⟩ rfl (Nat.le_of_ble_eq_true rfl) kM1 hW1 (ok_lv (by omega) (ok_st (l := []) (z := [vi r]) (by omega) (fun v hv => by rw [List.mem_singleton.mp hv]; trivial))) R2 (show mz M2 - 1 + k ≤ 601024 by omega) (show mn M2 + n ≤ 7293034 by omega) (fun _ _ => ?_)
  show LX κ _ (lv0 i) [vi r, vi r] M2 k n
  exact LX_same C0 d880 rfl (kk M2 hW2 hv2)
theorem ddL_22 : AllD code [(885, .aload_n 1, 1), (886, .invokevirtual 125, 3), (889, .aload_n 2, 1), (890, .invokevirtual 128, 3), (893, .lcmp, 1), (894, .ifCond .eq 295, 3), (897, .iconst 0, 1), (898, .ireturn, 1)] := allD_of (by decide +kernel)
theorem law_c22 (C0 : LA κ L xs) (hL : L ≤ 3072) {i : Nat} (hi : i + 6 ≤ L) {M : MM} {k n : Nat} (hW : WF M) (hv : Inv M) (hk : k ≤ 4000) (hn : n ≤ 24000) (kk : ∀ M2, WF M2 → Inv M2 → LX κ 1189 (lv0 i) [] M2 k n) : LX κ 885 (lv0 i) [] M k n := by
  obtain ⟨d885, d886, d889, d890, d893, d894, d897, d898, -⟩ := ddL_22
  obtain ⟨r, M1, M2, b1, b2, hv2⟩ := st_longest M hv
  have a1 : f11_longest M 1 = some (r, M1) := b1
  have a2 : f12_longest M1 86 = some (r, M2) := b2
  obtain ⟨o1, o2, o3, o4, o5, o6⟩ := hv.ok
  obtain ⟨-, -, -, q4, q5, q6⟩ := hv2.ok
  have R1 := T11_longest M 1 _ a1
  have g1 := (R1 hW (ok_in (l := []) (by omega))).1
  have hW1 : WF M1 := g1.2.1
  have z1 : mz M ≤ mz M1 := g1.1.1
  have R2 := T12_longest M1 86 _ a2
  have g2 := (R2 hW1 (ok_in (l := []) (by omega))).1
  have hW2 : WF M2 := g2.2.1
  have z2 : mz M1 ≤ mz M2 := g2.1.1
  have y2 : mn M1 ≤ mn M2 := g2.1.2
  have kM1 : (mK M1 86).1 = 15 := by
    unfold f12_longest at a2
    exact aO_k a2
  refine LX_aload C0 3 d885 rfl ?_
  refine LX_callV C0 (as := []) (st := []) d886 cv_jCallStepsLaw_125 ⟨by decide, by decide⟩ rfl (Nat.le_of_ble_eq_true rfl) o1 hW (ok_lv o4 (ok_st (l := []) (z := []) (by omega) (fun v hv => by cases hv))) R1 (show mz M1 - 1 + k ≤ 601024 by omega) (show mn M1 + n ≤ 7293034 by omega) (fun _ _ => ?_)
  show LX κ _ (lv0 i) [vl r] M1 k n
  refine LX_aload C0 2 d889 rfl ?_
  refine LX_callV C0 (as := []) (st := [vl r]) d890 cv_jCallStepsLaw_128 ⟨by decide, by decide⟩ rfl (Nat.le_of_ble_eq_true rfl) kM1 hW1 (ok_lv (by omega) (ok_st (l := []) (z := [vl r]) (by omega) (fun v hv => by rw [List.mem_singleton.mp hv]; trivial))) R2 (show mz M2 - 1 + k ≤ 601024 by omega) (show mn M2 + n ≤ 7293034 by omega) (fun _ _ => ?_)
  show LX κ _ (lv0 i) [vl r, vl r] M2 k n
  exact LX_lsame C0 d893 d894 rfl (kk M2 hW2 hv2)
theorem ddL_23 : AllD code [(899, .aload_n 1, 1), (900, .invokevirtual 129, 3), (903, .aload_n 2, 1), (904, .invokevirtual 132, 3), (907, .lcmp, 1), (908, .ifCond .eq 281, 3), (911, .iconst 0, 1), (912, .ireturn, 1)] := allD_of (by decide +kernel)
theorem law_c23 (C0 : LA κ L xs) (hL : L ≤ 3072) {i : Nat} (hi : i + 6 ≤ L) {M : MM} {k n : Nat} (hW : WF M) (hv : Inv M) (hk : k ≤ 4000) (hn : n ≤ 24000) (kk : ∀ M2, WF M2 → Inv M2 → LX κ 1189 (lv0 i) [] M2 k n) : LX κ 899 (lv0 i) [] M k n := by
  obtain ⟨d899, d900, d903, d904, d907, d908, d911, d912, -⟩ := ddL_23
  obtain ⟨r, M1, M2, b1, b2, hv2⟩ := st_stuck M hv
  have a1 : f11_stuck M 1 = some (r, M1) := b1
  have a2 : f12_stuck M1 86 = some (r, M2) := b2
  obtain ⟨o1, o2, o3, o4, o5, o6⟩ := hv.ok
  obtain ⟨-, -, -, q4, q5, q6⟩ := hv2.ok
  have R1 := T11_stuck M 1 _ a1
  have g1 := (R1 hW (ok_in (l := []) (by omega))).1
  have hW1 : WF M1 := g1.2.1
  have z1 : mz M ≤ mz M1 := g1.1.1
  have R2 := T12_stuck M1 86 _ a2
  have g2 := (R2 hW1 (ok_in (l := []) (by omega))).1
  have hW2 : WF M2 := g2.2.1
  have z2 : mz M1 ≤ mz M2 := g2.1.1
  have y2 : mn M1 ≤ mn M2 := g2.1.2
  have kM1 : (mK M1 86).1 = 15 := by
    unfold f12_stuck at a2
    exact aO_k a2
  refine LX_aload C0 3 d899 rfl ?_
  refine LX_callV C0 (as := []) (st := []) d900 cv_jCallStepsLaw_129 ⟨by decide, by decide⟩ rfl (Nat.le_of_ble_eq_true rfl) o1 hW (ok_lv o4 (ok_st (l := []) (z := []) (by omega) (fun v hv => by cases hv))) R1 (show mz M1 - 1 + k ≤ 601024 by omega) (show mn M1 + n ≤ 7293034 by omega) (fun _ _ => ?_)
  show LX κ _ (lv0 i) [vl r] M1 k n
  refine LX_aload C0 2 d903 rfl ?_
  refine LX_callV C0 (as := []) (st := [vl r]) d904 cv_jCallStepsLaw_132 ⟨by decide, by decide⟩ rfl (Nat.le_of_ble_eq_true rfl) kM1 hW1 (ok_lv (by omega) (ok_st (l := []) (z := [vl r]) (by omega) (fun v hv => by rw [List.mem_singleton.mp hv]; trivial))) R2 (show mz M2 - 1 + k ≤ 601024 by omega) (show mn M2 + n ≤ 7293034 by omega) (fun _ _ => ?_)
  show LX κ _ (lv0 i) [vl r, vl r] M2 k n
  exact LX_lsame C0 d907 d908 rfl (kk M2 hW2 hv2)
theorem ddL_24 : AllD code [(913, .aload_n 1, 1), (914, .aload_n 0, 1), (915, .iload 4, 2), (917, .iconst 1, 1), (918, .iadd, 1), (919, .iaload, 1), (920, .invokevirtual 133, 3), (923, .aload_n 2, 1), (924, .aload_n 0, 1), (925, .iload 4, 2), (927, .iconst 1, 1), (928, .iadd, 1), (929, .iaload, 1), (930, .invokevirtual 136, 3), (933, .if_icmp .eq 256, 3), (936, .iconst 0, 1), (937, .ireturn, 1)] := allD_of (by decide +kernel)
theorem law_c24 (C0 : LA κ L xs) (hL : L ≤ 3072) {i : Nat} (hi : i + 6 ≤ L) {M : MM} {k n : Nat} (hW : WF M) (hv : Inv M) (hk : k ≤ 4000) (hn : n ≤ 24000) (kk : ∀ M2, WF M2 → Inv M2 → LX κ 1189 (lv0 i) [] M2 k n) : LX κ 913 (lv0 i) [] M k n := by
  obtain ⟨d913, d914, d915, d917, d918, d919, d920, d923, d924, d925, d927, d928, d929, d930, d933, d936, d937, -⟩ := ddL_24
  obtain ⟨r, M1, M2, b1, b2, hv2⟩ := st_machine (xs (i + 1)) M hv
  have a1 : f11_machine M 1 (xs (i + 1)) = some (r, M1) := b1
  have a2 : f12_machine M1 86 (xs (i + 1)) = some (r, M2) := b2
  obtain ⟨o1, o2, o3, o4, o5, o6⟩ := hv.ok
  obtain ⟨-, -, -, q4, q5, q6⟩ := hv2.ok
  have R1 := T11_machine M 1 (xs (i + 1)) _ a1
  have g1 := (R1 hW (ok_in (l := [xs (i + 1)]) (by omega))).1
  have hW1 : WF M1 := g1.2.1
  have z1 : mz M ≤ mz M1 := g1.1.1
  have R2 := T12_machine M1 86 (xs (i + 1)) _ a2
  have g2 := (R2 hW1 (ok_in (l := [xs (i + 1)]) (by omega))).1
  have hW2 : WF M2 := g2.2.1
  have z2 : mz M1 ≤ mz M2 := g2.1.1
  have y2 : mn M1 ≤ mn M2 := g2.1.2
  have kM1 : (mK M1 86).1 = 15 := by
    unfold f12_machine at a2
    exact aO_k a2
  refine LX_aload C0 3 d913 rfl ?_
  refine LX_arg C0 hL (j := 1) (t := 0) rfl (by omega) rfl d914 d915 d917 d918 d919 ?_
  refine LX_callV C0 (as := [vi (xs (i + 1))]) (st := []) d920 cv_jCallStepsLaw_133 ⟨by decide, by decide⟩ rfl (Nat.le_of_ble_eq_true rfl) o1 hW (ok_lv o4 (ok_st (l := [xs (i + 1)]) (z := []) (by omega) (fun v hv => by cases hv))) R1 (show mz M1 - 1 + k ≤ 601024 by omega) (show mn M1 + n ≤ 7293034 by omega) (fun _ _ => ?_)
  show LX κ _ (lv0 i) [vi r] M1 k n
  refine LX_aload C0 2 d923 rfl ?_
  refine LX_arg C0 hL (j := 1) (t := 0) rfl (by omega) rfl d924 d925 d927 d928 d929 ?_
  refine LX_callV C0 (as := [vi (xs (i + 1))]) (st := [vi r]) d930 cv_jCallStepsLaw_136 ⟨by decide, by decide⟩ rfl (Nat.le_of_ble_eq_true rfl) kM1 hW1 (ok_lv (by omega) (ok_st (l := [xs (i + 1)]) (z := [vi r]) (by omega) (fun v hv => by rw [List.mem_singleton.mp hv]; trivial))) R2 (show mz M2 - 1 + k ≤ 601024 by omega) (show mn M2 + n ≤ 7293034 by omega) (fun _ _ => ?_)
  show LX κ _ (lv0 i) [vi r, vi r] M2 k n
  exact LX_same C0 d933 rfl (kk M2 hW2 hv2)
theorem ddL_25 : AllD code [(938, .aload_n 1, 1), (939, .aload_n 0, 1), (940, .iload 4, 2), (942, .iconst 1, 1), (943, .iadd, 1), (944, .iaload, 1), (945, .aload_n 0, 1), (946, .iload 4, 2), (948, .iconst 2, 1), (949, .iadd, 1), (950, .iaload, 1), (951, .aload_n 0, 1), (952, .iload 4, 2), (954, .iconst 3, 1), (955, .iadd, 1), (956, .iaload, 1), (957, .invokevirtual 137, 3), (960, .aload_n 2, 1), (961, .aload_n 0, 1), (962, .iload 4, 2), (964, .iconst 1, 1), (965, .iadd, 1), (966, .iaload, 1), (967, .aload_n 0, 1), (968, .iload 4, 2), (970, .iconst 2, 1), (971, .iadd, 1), (972, .iaload, 1), (973, .aload_n 0, 1), (974, .iload 4, 2), (976, .iconst 3, 1), (977, .iadd, 1), (978, .iaload, 1), (979, .invokevirtual 141, 3), (982, .if_icmp .eq 207, 3), (985, .iconst 0, 1), (986, .ireturn, 1)] := allD_of (by decide +kernel)
theorem law_c25 (C0 : LA κ L xs) (hL : L ≤ 3072) {i : Nat} (hi : i + 6 ≤ L) {M : MM} {k n : Nat} (hW : WF M) (hv : Inv M) (hk : k ≤ 4000) (hn : n ≤ 24000) (kk : ∀ M2, WF M2 → Inv M2 → LX κ 1189 (lv0 i) [] M2 k n) : LX κ 938 (lv0 i) [] M k n := by
  obtain ⟨d938, d939, d940, d942, d943, d944, d945, d946, d948, d949, d950, d951, d952, d954, d955, d956, d957, d960, d961, d962, d964, d965, d966, d967, d968, d970, d971, d972, d973, d974, d976, d977, d978, d979, d982, d985, d986, -⟩ := ddL_25
  obtain ⟨r, M1, M2, b1, b2, hv2⟩ := st_next (xs (i + 1)) (xs (i + 2)) (xs (i + 3)) M hv
  have a1 : f11_next M 1 (xs (i + 1)) (xs (i + 2)) (xs (i + 3)) = some (r, M1) := b1
  have a2 : f12_next M1 86 (xs (i + 1)) (xs (i + 2)) (xs (i + 3)) = some (r, M2) := b2
  obtain ⟨o1, o2, o3, o4, o5, o6⟩ := hv.ok
  obtain ⟨-, -, -, q4, q5, q6⟩ := hv2.ok
  have R1 := T11_next M 1 (xs (i + 1)) (xs (i + 2)) (xs (i + 3)) _ a1
  have g1 := (R1 hW (ok_in (l := [xs (i + 1), xs (i + 2), xs (i + 3)]) (by omega))).1
  have hW1 : WF M1 := g1.2.1
  have z1 : mz M ≤ mz M1 := g1.1.1
  have R2 := T12_next M1 86 (xs (i + 1)) (xs (i + 2)) (xs (i + 3)) _ a2
  have g2 := (R2 hW1 (ok_in (l := [xs (i + 1), xs (i + 2), xs (i + 3)]) (by omega))).1
  have hW2 : WF M2 := g2.2.1
  have z2 : mz M1 ≤ mz M2 := g2.1.1
  have y2 : mn M1 ≤ mn M2 := g2.1.2
  have kM1 : (mK M1 86).1 = 15 := by
    unfold f12_next at a2
    exact aO_k a2
  refine LX_aload C0 3 d938 rfl ?_
  refine LX_arg C0 hL (j := 1) (t := 0) rfl (by omega) rfl d939 d940 d942 d943 d944 ?_
  refine LX_arg C0 hL (j := 2) (t := 0) rfl (by omega) rfl d945 d946 d948 d949 d950 ?_
  refine LX_arg C0 hL (j := 3) (t := 0) rfl (by omega) rfl d951 d952 d954 d955 d956 ?_
  refine LX_callV C0 (as := [vi (xs (i + 1)), vi (xs (i + 2)), vi (xs (i + 3))]) (st := []) d957 cv_jCallStepsLaw_137 ⟨by decide, by decide⟩ rfl (Nat.le_of_ble_eq_true rfl) o1 hW (ok_lv o4 (ok_st (l := [xs (i + 3), xs (i + 2), xs (i + 1)]) (z := []) (by omega) (fun v hv => by cases hv))) R1 (show mz M1 - 1 + k ≤ 601024 by omega) (show mn M1 + n ≤ 7293034 by omega) (fun _ _ => ?_)
  show LX κ _ (lv0 i) [vi r] M1 k n
  refine LX_aload C0 2 d960 rfl ?_
  refine LX_arg C0 hL (j := 1) (t := 0) rfl (by omega) rfl d961 d962 d964 d965 d966 ?_
  refine LX_arg C0 hL (j := 2) (t := 0) rfl (by omega) rfl d967 d968 d970 d971 d972 ?_
  refine LX_arg C0 hL (j := 3) (t := 0) rfl (by omega) rfl d973 d974 d976 d977 d978 ?_
  refine LX_callV C0 (as := [vi (xs (i + 1)), vi (xs (i + 2)), vi (xs (i + 3))]) (st := [vi r]) d979 cv_jCallStepsLaw_141 ⟨by decide, by decide⟩ rfl (Nat.le_of_ble_eq_true rfl) kM1 hW1 (ok_lv (by omega) (ok_st (l := [xs (i + 3), xs (i + 2), xs (i + 1)]) (z := [vi r]) (by omega) (fun v hv => by rw [List.mem_singleton.mp hv]; trivial))) R2 (show mz M2 - 1 + k ≤ 601024 by omega) (show mn M2 + n ≤ 7293034 by omega) (fun _ _ => ?_)
  show LX κ _ (lv0 i) [vi r, vi r] M2 k n
  exact LX_same C0 d982 rfl (kk M2 hW2 hv2)
theorem ddL_26 : AllD code [(987, .aload_n 1, 1), (988, .aload_n 0, 1), (989, .iload 4, 2), (991, .iconst 1, 1), (992, .iadd, 1), (993, .iaload, 1), (994, .aload_n 0, 1), (995, .iload 4, 2), (997, .iconst 2, 1), (998, .iadd, 1), (999, .iaload, 1), (1000, .invokevirtual 142, 3), (1003, .aload_n 2, 1), (1004, .aload_n 0, 1), (1005, .iload 4, 2), (1007, .iconst 1, 1), (1008, .iadd, 1), (1009, .iaload, 1), (1010, .aload_n 0, 1), (1011, .iload 4, 2), (1013, .iconst 2, 1), (1014, .iadd, 1), (1015, .iaload, 1), (1016, .invokevirtual 145, 3), (1019, .if_icmp .eq 170, 3), (1022, .iconst 0, 1), (1023, .ireturn, 1)] := allD_of (by decide +kernel)
theorem law_c26 (C0 : LA κ L xs) (hL : L ≤ 3072) {i : Nat} (hi : i + 6 ≤ L) {M : MM} {k n : Nat} (hW : WF M) (hv : Inv M) (hk : k ≤ 4000) (hn : n ≤ 24000) (kk : ∀ M2, WF M2 → Inv M2 → LX κ 1189 (lv0 i) [] M2 k n) : LX κ 987 (lv0 i) [] M k n := by
  obtain ⟨d987, d988, d989, d991, d992, d993, d994, d995, d997, d998, d999, d1000, d1003, d1004, d1005, d1007, d1008, d1009, d1010, d1011, d1013, d1014, d1015, d1016, d1019, d1022, d1023, -⟩ := ddL_26
  obtain ⟨r, M1, M2, b1, b2, hv2⟩ := st_good (xs (i + 1)) (xs (i + 2)) M hv
  have a1 : f11_good M 1 (xs (i + 1)) (xs (i + 2)) = some (r, M1) := b1
  have a2 : f12_good M1 86 (xs (i + 1)) (xs (i + 2)) = some (r, M2) := b2
  obtain ⟨o1, o2, o3, o4, o5, o6⟩ := hv.ok
  obtain ⟨-, -, -, q4, q5, q6⟩ := hv2.ok
  have R1 := T11_good M 1 (xs (i + 1)) (xs (i + 2)) _ a1
  have g1 := (R1 hW (ok_in (l := [xs (i + 1), xs (i + 2)]) (by omega))).1
  have hW1 : WF M1 := g1.2.1
  have z1 : mz M ≤ mz M1 := g1.1.1
  have R2 := T12_good M1 86 (xs (i + 1)) (xs (i + 2)) _ a2
  have g2 := (R2 hW1 (ok_in (l := [xs (i + 1), xs (i + 2)]) (by omega))).1
  have hW2 : WF M2 := g2.2.1
  have z2 : mz M1 ≤ mz M2 := g2.1.1
  have y2 : mn M1 ≤ mn M2 := g2.1.2
  have kM1 : (mK M1 86).1 = 15 := by
    unfold f12_good at a2
    exact aO_k a2
  refine LX_aload C0 3 d987 rfl ?_
  refine LX_arg C0 hL (j := 1) (t := 0) rfl (by omega) rfl d988 d989 d991 d992 d993 ?_
  refine LX_arg C0 hL (j := 2) (t := 0) rfl (by omega) rfl d994 d995 d997 d998 d999 ?_
  refine LX_callV C0 (as := [vi (xs (i + 1)), vi (xs (i + 2))]) (st := []) d1000 cv_jCallStepsLaw_142 ⟨by decide, by decide⟩ rfl (Nat.le_of_ble_eq_true rfl) o1 hW (ok_lv o4 (ok_st (l := [xs (i + 2), xs (i + 1)]) (z := []) (by omega) (fun v hv => by cases hv))) R1 (show mz M1 - 1 + k ≤ 601024 by omega) (show mn M1 + n ≤ 7293034 by omega) (fun _ _ => ?_)
  show LX κ _ (lv0 i) [vi r] M1 k n
  refine LX_aload C0 2 d1003 rfl ?_
  refine LX_arg C0 hL (j := 1) (t := 0) rfl (by omega) rfl d1004 d1005 d1007 d1008 d1009 ?_
  refine LX_arg C0 hL (j := 2) (t := 0) rfl (by omega) rfl d1010 d1011 d1013 d1014 d1015 ?_
  refine LX_callV C0 (as := [vi (xs (i + 1)), vi (xs (i + 2))]) (st := [vi r]) d1016 cv_jCallStepsLaw_145 ⟨by decide, by decide⟩ rfl (Nat.le_of_ble_eq_true rfl) kM1 hW1 (ok_lv (by omega) (ok_st (l := [xs (i + 2), xs (i + 1)]) (z := [vi r]) (by omega) (fun v hv => by rw [List.mem_singleton.mp hv]; trivial))) R2 (show mz M2 - 1 + k ≤ 601024 by omega) (show mn M2 + n ≤ 7293034 by omega) (fun _ _ => ?_)
  show LX κ _ (lv0 i) [vi r, vi r] M2 k n
  exact LX_same C0 d1019 rfl (kk M2 hW2 hv2)
theorem ddL_27 : AllD code [(1024, .aload_n 1, 1), (1025, .aload_n 0, 1), (1026, .iload 4, 2), (1028, .iconst 1, 1), (1029, .iadd, 1), (1030, .iaload, 1), (1031, .aload_n 0, 1), (1032, .iload 4, 2), (1034, .iconst 2, 1), (1035, .iadd, 1), (1036, .iaload, 1), (1037, .invokevirtual 146, 3), (1040, .aload_n 2, 1), (1041, .aload_n 0, 1), (1042, .iload 4, 2), (1044, .iconst 1, 1), (1045, .iadd, 1), (1046, .iaload, 1), (1047, .aload_n 0, 1), (1048, .iload 4, 2), (1050, .iconst 2, 1), (1051, .iadd, 1), (1052, .iaload, 1), (1053, .invokevirtual 149, 3), (1056, .lcmp, 1), (1057, .ifCond .eq 132, 3), (1060, .iconst 0, 1), (1061, .ireturn, 1)] := allD_of (by decide +kernel)
theorem law_c27 (C0 : LA κ L xs) (hL : L ≤ 3072) {i : Nat} (hi : i + 6 ≤ L) {M : MM} {k n : Nat} (hW : WF M) (hv : Inv M) (hk : k ≤ 4000) (hn : n ≤ 24000) (kk : ∀ M2, WF M2 → Inv M2 → LX κ 1189 (lv0 i) [] M2 k n) : LX κ 1024 (lv0 i) [] M k n := by
  obtain ⟨d1024, d1025, d1026, d1028, d1029, d1030, d1031, d1032, d1034, d1035, d1036, d1037, d1040, d1041, d1042, d1044, d1045, d1046, d1047, d1048, d1050, d1051, d1052, d1053, d1056, d1057, d1060, d1061, -⟩ := ddL_27
  obtain ⟨r, M1, M2, b1, b2, hv2⟩ := st_stacks (xs (i + 1)) (xs (i + 2)) M hv
  have a1 : f11_stacks M 1 (xs (i + 1)) (xs (i + 2)) = some (r, M1) := b1
  have a2 : f12_stacks M1 86 (xs (i + 1)) (xs (i + 2)) = some (r, M2) := b2
  obtain ⟨o1, o2, o3, o4, o5, o6⟩ := hv.ok
  obtain ⟨-, -, -, q4, q5, q6⟩ := hv2.ok
  have R1 := T11_stacks M 1 (xs (i + 1)) (xs (i + 2)) _ a1
  have g1 := (R1 hW (ok_in (l := [xs (i + 1), xs (i + 2)]) (by omega))).1
  have hW1 : WF M1 := g1.2.1
  have z1 : mz M ≤ mz M1 := g1.1.1
  have R2 := T12_stacks M1 86 (xs (i + 1)) (xs (i + 2)) _ a2
  have g2 := (R2 hW1 (ok_in (l := [xs (i + 1), xs (i + 2)]) (by omega))).1
  have hW2 : WF M2 := g2.2.1
  have z2 : mz M1 ≤ mz M2 := g2.1.1
  have y2 : mn M1 ≤ mn M2 := g2.1.2
  have kM1 : (mK M1 86).1 = 15 := by
    unfold f12_stacks at a2
    exact aO_k a2
  refine LX_aload C0 3 d1024 rfl ?_
  refine LX_arg C0 hL (j := 1) (t := 0) rfl (by omega) rfl d1025 d1026 d1028 d1029 d1030 ?_
  refine LX_arg C0 hL (j := 2) (t := 0) rfl (by omega) rfl d1031 d1032 d1034 d1035 d1036 ?_
  refine LX_callV C0 (as := [vi (xs (i + 1)), vi (xs (i + 2))]) (st := []) d1037 cv_jCallStepsLaw_146 ⟨by decide, by decide⟩ rfl (Nat.le_of_ble_eq_true rfl) o1 hW (ok_lv o4 (ok_st (l := [xs (i + 2), xs (i + 1)]) (z := []) (by omega) (fun v hv => by cases hv))) R1 (show mz M1 - 1 + k ≤ 601024 by omega) (show mn M1 + n ≤ 7293034 by omega) (fun _ _ => ?_)
  show LX κ _ (lv0 i) [vl r] M1 k n
  refine LX_aload C0 2 d1040 rfl ?_
  refine LX_arg C0 hL (j := 1) (t := 0) rfl (by omega) rfl d1041 d1042 d1044 d1045 d1046 ?_
  refine LX_arg C0 hL (j := 2) (t := 0) rfl (by omega) rfl d1047 d1048 d1050 d1051 d1052 ?_
  refine LX_callV C0 (as := [vi (xs (i + 1)), vi (xs (i + 2))]) (st := [vl r]) d1053 cv_jCallStepsLaw_149 ⟨by decide, by decide⟩ rfl (Nat.le_of_ble_eq_true rfl) kM1 hW1 (ok_lv (by omega) (ok_st (l := [xs (i + 2), xs (i + 1)]) (z := [vl r]) (by omega) (fun v hv => by rw [List.mem_singleton.mp hv]; trivial))) R2 (show mz M2 - 1 + k ≤ 601024 by omega) (show mn M2 + n ≤ 7293034 by omega) (fun _ _ => ?_)
  show LX κ _ (lv0 i) [vl r, vl r] M2 k n
  exact LX_lsame C0 d1056 d1057 rfl (kk M2 hW2 hv2)
theorem ddL_28 : AllD code [(1062, .aload_n 1, 1), (1063, .aload_n 0, 1), (1064, .iload 4, 2), (1066, .iconst 1, 1), (1067, .iadd, 1), (1068, .iaload, 1), (1069, .aload_n 0, 1), (1070, .iload 4, 2), (1072, .iconst 2, 1), (1073, .iadd, 1), (1074, .iaload, 1), (1075, .invokevirtual 150, 3), (1078, .aload_n 2, 1), (1079, .aload_n 0, 1), (1080, .iload 4, 2), (1082, .iconst 1, 1), (1083, .iadd, 1), (1084, .iaload, 1), (1085, .aload_n 0, 1), (1086, .iload 4, 2), (1088, .iconst 2, 1), (1089, .iadd, 1), (1090, .iaload, 1), (1091, .invokevirtual 153, 3), (1094, .if_icmp .eq 95, 3), (1097, .iconst 0, 1), (1098, .ireturn, 1)] := allD_of (by decide +kernel)
theorem law_c28 (C0 : LA κ L xs) (hL : L ≤ 3072) {i : Nat} (hi : i + 6 ≤ L) {M : MM} {k n : Nat} (hW : WF M) (hv : Inv M) (hk : k ≤ 4000) (hn : n ≤ 24000) (kk : ∀ M2, WF M2 → Inv M2 → LX κ 1189 (lv0 i) [] M2 k n) : LX κ 1062 (lv0 i) [] M k n := by
  obtain ⟨d1062, d1063, d1064, d1066, d1067, d1068, d1069, d1070, d1072, d1073, d1074, d1075, d1078, d1079, d1080, d1082, d1083, d1084, d1085, d1086, d1088, d1089, d1090, d1091, d1094, d1097, d1098, -⟩ := ddL_28
  obtain ⟨r, M1, M2, b1, b2, hv2⟩ := st_shortest (xs (i + 1)) (xs (i + 2)) M hv
  have a1 : f11_shortest M 1 (xs (i + 1)) (xs (i + 2)) = some (r, M1) := b1
  have a2 : f12_shortest M1 86 (xs (i + 1)) (xs (i + 2)) = some (r, M2) := b2
  obtain ⟨o1, o2, o3, o4, o5, o6⟩ := hv.ok
  obtain ⟨-, -, -, q4, q5, q6⟩ := hv2.ok
  have R1 := T11_shortest M 1 (xs (i + 1)) (xs (i + 2)) _ a1
  have g1 := (R1 hW (ok_in (l := [xs (i + 1), xs (i + 2)]) (by omega))).1
  have hW1 : WF M1 := g1.2.1
  have z1 : mz M ≤ mz M1 := g1.1.1
  have R2 := T12_shortest M1 86 (xs (i + 1)) (xs (i + 2)) _ a2
  have g2 := (R2 hW1 (ok_in (l := [xs (i + 1), xs (i + 2)]) (by omega))).1
  have hW2 : WF M2 := g2.2.1
  have z2 : mz M1 ≤ mz M2 := g2.1.1
  have y2 : mn M1 ≤ mn M2 := g2.1.2
  have kM1 : (mK M1 86).1 = 15 := by
    unfold f12_shortest at a2
    exact aO_k a2
  refine LX_aload C0 3 d1062 rfl ?_
  refine LX_arg C0 hL (j := 1) (t := 0) rfl (by omega) rfl d1063 d1064 d1066 d1067 d1068 ?_
  refine LX_arg C0 hL (j := 2) (t := 0) rfl (by omega) rfl d1069 d1070 d1072 d1073 d1074 ?_
  refine LX_callV C0 (as := [vi (xs (i + 1)), vi (xs (i + 2))]) (st := []) d1075 cv_jCallStepsLaw_150 ⟨by decide, by decide⟩ rfl (Nat.le_of_ble_eq_true rfl) o1 hW (ok_lv o4 (ok_st (l := [xs (i + 2), xs (i + 1)]) (z := []) (by omega) (fun v hv => by cases hv))) R1 (show mz M1 - 1 + k ≤ 601024 by omega) (show mn M1 + n ≤ 7293034 by omega) (fun _ _ => ?_)
  show LX κ _ (lv0 i) [vi r] M1 k n
  refine LX_aload C0 2 d1078 rfl ?_
  refine LX_arg C0 hL (j := 1) (t := 0) rfl (by omega) rfl d1079 d1080 d1082 d1083 d1084 ?_
  refine LX_arg C0 hL (j := 2) (t := 0) rfl (by omega) rfl d1085 d1086 d1088 d1089 d1090 ?_
  refine LX_callV C0 (as := [vi (xs (i + 1)), vi (xs (i + 2))]) (st := [vi r]) d1091 cv_jCallStepsLaw_153 ⟨by decide, by decide⟩ rfl (Nat.le_of_ble_eq_true rfl) kM1 hW1 (ok_lv (by omega) (ok_st (l := [xs (i + 2), xs (i + 1)]) (z := [vi r]) (by omega) (fun v hv => by rw [List.mem_singleton.mp hv]; trivial))) R2 (show mz M2 - 1 + k ≤ 601024 by omega) (show mn M2 + n ≤ 7293034 by omega) (fun _ _ => ?_)
  show LX κ _ (lv0 i) [vi r, vi r] M2 k n
  exact LX_same C0 d1094 rfl (kk M2 hW2 hv2)
theorem ddL_29 : AllD code [(1099, .aload_n 1, 1), (1100, .aload_n 0, 1), (1101, .iload 4, 2), (1103, .iconst 1, 1), (1104, .iadd, 1), (1105, .iaload, 1), (1106, .aload_n 0, 1), (1107, .iload 4, 2), (1109, .iconst 2, 1), (1110, .iadd, 1), (1111, .iaload, 1), (1112, .invokevirtual 154, 3), (1115, .aload_n 2, 1), (1116, .aload_n 0, 1), (1117, .iload 4, 2), (1119, .iconst 1, 1), (1120, .iadd, 1), (1121, .iaload, 1), (1122, .aload_n 0, 1), (1123, .iload 4, 2), (1125, .iconst 2, 1), (1126, .iadd, 1), (1127, .iaload, 1), (1128, .invokevirtual 157, 3), (1131, .if_icmp .eq 58, 3), (1134, .iconst 0, 1), (1135, .ireturn, 1)] := allD_of (by decide +kernel)
theorem law_c29 (C0 : LA κ L xs) (hL : L ≤ 3072) {i : Nat} (hi : i + 6 ≤ L) {M : MM} {k n : Nat} (hW : WF M) (hv : Inv M) (hk : k ≤ 4000) (hn : n ≤ 24000) (kk : ∀ M2, WF M2 → Inv M2 → LX κ 1189 (lv0 i) [] M2 k n) : LX κ 1099 (lv0 i) [] M k n := by
  obtain ⟨d1099, d1100, d1101, d1103, d1104, d1105, d1106, d1107, d1109, d1110, d1111, d1112, d1115, d1116, d1117, d1119, d1120, d1121, d1122, d1123, d1125, d1126, d1127, d1128, d1131, d1134, d1135, -⟩ := ddL_29
  obtain ⟨r, M1, M2, b1, b2, hv2⟩ := st_same (xs (i + 1)) (xs (i + 2)) M hv
  have a1 : f11_same M 1 (xs (i + 1)) (xs (i + 2)) = some (r, M1) := b1
  have a2 : f12_same M1 86 (xs (i + 1)) (xs (i + 2)) = some (r, M2) := b2
  obtain ⟨o1, o2, o3, o4, o5, o6⟩ := hv.ok
  obtain ⟨-, -, -, q4, q5, q6⟩ := hv2.ok
  have R1 := T11_same M 1 (xs (i + 1)) (xs (i + 2)) _ a1
  have g1 := (R1 hW (ok_in (l := [xs (i + 1), xs (i + 2)]) (by omega))).1
  have hW1 : WF M1 := g1.2.1
  have z1 : mz M ≤ mz M1 := g1.1.1
  have R2 := T12_same M1 86 (xs (i + 1)) (xs (i + 2)) _ a2
  have g2 := (R2 hW1 (ok_in (l := [xs (i + 1), xs (i + 2)]) (by omega))).1
  have hW2 : WF M2 := g2.2.1
  have z2 : mz M1 ≤ mz M2 := g2.1.1
  have y2 : mn M1 ≤ mn M2 := g2.1.2
  have kM1 : (mK M1 86).1 = 15 := by
    unfold f12_same at a2
    exact aO_k a2
  refine LX_aload C0 3 d1099 rfl ?_
  refine LX_arg C0 hL (j := 1) (t := 0) rfl (by omega) rfl d1100 d1101 d1103 d1104 d1105 ?_
  refine LX_arg C0 hL (j := 2) (t := 0) rfl (by omega) rfl d1106 d1107 d1109 d1110 d1111 ?_
  refine LX_callV C0 (as := [vi (xs (i + 1)), vi (xs (i + 2))]) (st := []) d1112 cv_jCallStepsLaw_154 ⟨by decide, by decide⟩ rfl (Nat.le_of_ble_eq_true rfl) o1 hW (ok_lv o4 (ok_st (l := [xs (i + 2), xs (i + 1)]) (z := []) (by omega) (fun v hv => by cases hv))) R1 (show mz M1 - 1 + k ≤ 601024 by omega) (show mn M1 + n ≤ 7293034 by omega) (fun _ _ => ?_)
  show LX κ _ (lv0 i) [vi r] M1 k n
  refine LX_aload C0 2 d1115 rfl ?_
  refine LX_arg C0 hL (j := 1) (t := 0) rfl (by omega) rfl d1116 d1117 d1119 d1120 d1121 ?_
  refine LX_arg C0 hL (j := 2) (t := 0) rfl (by omega) rfl d1122 d1123 d1125 d1126 d1127 ?_
  refine LX_callV C0 (as := [vi (xs (i + 1)), vi (xs (i + 2))]) (st := [vi r]) d1128 cv_jCallStepsLaw_157 ⟨by decide, by decide⟩ rfl (Nat.le_of_ble_eq_true rfl) kM1 hW1 (ok_lv (by omega) (ok_st (l := [xs (i + 2), xs (i + 1)]) (z := [vi r]) (by omega) (fun v hv => by rw [List.mem_singleton.mp hv]; trivial))) R2 (show mz M2 - 1 + k ≤ 601024 by omega) (show mn M2 + n ≤ 7293034 by omega) (fun _ _ => ?_)
  show LX κ _ (lv0 i) [vi r, vi r] M2 k n
  exact LX_same C0 d1131 rfl (kk M2 hW2 hv2)
theorem ddL_30 : AllD code [(1136, .aload_n 1, 1), (1137, .aload_n 0, 1), (1138, .iload 4, 2), (1140, .iconst 1, 1), (1141, .iadd, 1), (1142, .iaload, 1), (1143, .aload_n 0, 1), (1144, .iload 4, 2), (1146, .iconst 2, 1), (1147, .iadd, 1), (1148, .iaload, 1), (1149, .ifCond .eq 7, 3), (1152, .iconst 1, 1), (1153, .goto 4, 3), (1156, .iconst 0, 1), (1157, .invokevirtual 158, 3), (1160, .aload_n 2, 1), (1161, .aload_n 0, 1), (1162, .iload 4, 2), (1164, .iconst 1, 1), (1165, .iadd, 1), (1166, .iaload, 1), (1167, .aload_n 0, 1), (1168, .iload 4, 2), (1170, .iconst 2, 1), (1171, .iadd, 1), (1172, .iaload, 1), (1173, .ifCond .eq 7, 3), (1176, .iconst 1, 1), (1177, .goto 4, 3), (1180, .iconst 0, 1), (1181, .invokevirtual 162, 3), (1184, .if_icmp .eq 5, 3), (1187, .iconst 0, 1), (1188, .ireturn, 1)] := allD_of (by decide +kernel)
theorem law_c30 (C0 : LA κ L xs) (hL : L ≤ 3072) {i : Nat} (hi : i + 6 ≤ L) {M : MM} {k n : Nat} (hW : WF M) (hv : Inv M) (hk : k ≤ 4000) (hn : n ≤ 24000) (kk : ∀ M2, WF M2 → Inv M2 → LX κ 1189 (lv0 i) [] M2 k n) : LX κ 1136 (lv0 i) [] M k n := by
  obtain ⟨d1136, d1137, d1138, d1140, d1141, d1142, d1143, d1144, d1146, d1147, d1148, d1149, d1152, d1153, d1156, d1157, d1160, d1161, d1162, d1164, d1165, d1166, d1167, d1168, d1170, d1171, d1172, d1173, d1176, d1177, d1180, d1181, d1184, d1187, d1188, -⟩ := ddL_30
  obtain ⟨r, M1, M2, b1, b2, hv2⟩ := st_out (xs (i + 1)) (zb (xs (i + 2))) M hv
  have a1 : f11_out M 1 (xs (i + 1)) (zb (xs (i + 2))) = some (r, M1) := b1
  have a2 : f12_out M1 86 (xs (i + 1)) (zb (xs (i + 2))) = some (r, M2) := b2
  obtain ⟨o1, o2, o3, o4, o5, o6⟩ := hv.ok
  obtain ⟨-, -, -, q4, q5, q6⟩ := hv2.ok
  have R1 := T11_out M 1 (xs (i + 1)) (zb (xs (i + 2))) _ a1
  have g1 := (R1 hW (ok_in (l := [xs (i + 1), zb (xs (i + 2))]) (by omega))).1
  have hW1 : WF M1 := g1.2.1
  have z1 : mz M ≤ mz M1 := g1.1.1
  have R2 := T12_out M1 86 (xs (i + 1)) (zb (xs (i + 2))) _ a2
  have g2 := (R2 hW1 (ok_in (l := [xs (i + 1), zb (xs (i + 2))]) (by omega))).1
  have hW2 : WF M2 := g2.2.1
  have z2 : mz M1 ≤ mz M2 := g2.1.1
  have y2 : mn M1 ≤ mn M2 := g2.1.2
  have kM1 : (mK M1 86).1 = 15 := by
    unfold f12_out at a2
    exact aO_k a2
  refine LX_aload C0 3 d1136 rfl ?_
  refine LX_arg C0 hL (j := 1) (t := 0) rfl (by omega) rfl d1137 d1138 d1140 d1141 d1142 ?_
  refine LX_arg C0 hL (j := 2) (t := 0) rfl (by omega) rfl d1143 d1144 d1146 d1147 d1148 ?_
  refine LX_zb C0 d1149 d1152 d1153 d1156 ?_
  refine LX_callV C0 (as := [vi (xs (i + 1)), vi (zb (xs (i + 2)))]) (st := []) d1157 cv_jCallStepsLaw_158 ⟨by decide, by decide⟩ rfl (Nat.le_of_ble_eq_true rfl) o1 hW (ok_lv o4 (ok_st (l := [zb (xs (i + 2)), xs (i + 1)]) (z := []) (by omega) (fun v hv => by cases hv))) R1 (show mz M1 - 1 + k ≤ 601024 by omega) (show mn M1 + n ≤ 7293034 by omega) (fun _ _ => ?_)
  show LX κ _ (lv0 i) [vi r] M1 k n
  refine LX_aload C0 2 d1160 rfl ?_
  refine LX_arg C0 hL (j := 1) (t := 0) rfl (by omega) rfl d1161 d1162 d1164 d1165 d1166 ?_
  refine LX_arg C0 hL (j := 2) (t := 0) rfl (by omega) rfl d1167 d1168 d1170 d1171 d1172 ?_
  refine LX_zb C0 d1173 d1176 d1177 d1180 ?_
  refine LX_callV C0 (as := [vi (xs (i + 1)), vi (zb (xs (i + 2)))]) (st := [vi r]) d1181 cv_jCallStepsLaw_162 ⟨by decide, by decide⟩ rfl (Nat.le_of_ble_eq_true rfl) kM1 hW1 (ok_lv (by omega) (ok_st (l := [zb (xs (i + 2)), xs (i + 1)]) (z := [vi r]) (by omega) (fun v hv => by rw [List.mem_singleton.mp hv]; trivial))) R2 (show mz M2 - 1 + k ≤ 601024 by omega) (show mn M2 + n ≤ 7293034 by omega) (fun _ _ => ?_)
  show LX κ _ (lv0 i) [vi r, vi r] M2 k n
  exact LX_same C0 d1184 rfl (kk M2 hW2 hv2)
end LAWK
