/-! HEADS: what a rule leads to -/
def CnOK (P : PG) (o : Nat) (cn : Nat → Nat → Nat → Bool) : Prop := (∀ E R, Std P o (gTG P) E R → ∀ p g q, p < 5 → g < 6 → q < 5 → cn p g q = decide (E (ix 15 p g q) < FARN)) ∧ ∀ F, Net P o (gTG P) F → ∀ p g q, p < 5 → g < 6 → q < 5 → cn p g q = decide (F (ix 21 p g q) < FARN)
theorem CnOK_ex {P : PG} (hp : WP P) (o : Nat) : ∃ cn, CnOK P o cn := by
  obtain ⟨E, R, hE⟩ := Std_ex hp o (gTG P)
  obtain ⟨F, hF⟩ := Net_ex hp o (gTG P)
  refine ⟨fun p g q => decide (E (ix 15 p g q) < FARN), fun E' R' h p g q h1 h2 h3 => ?_, fun F' h p g q h1 h2 h3 => ?_⟩
  · show decide (E (ix 15 p g q) < FARN) = _
    rw [GC_uniq hE.2.1 h.2.1 _ (ix_lt h1 h2 (by omega))]
  · show decide (E (ix 15 p g q) < FARN) = _
    rw [(GC_sim hp (okT_g hp) (okD_T _) hE.2.1 h).pop h1 h2 h3]
def hdR (P : PG) (r : Nat) : Nat := 6 * rp P r + rg P r
def HdC (M : MM) (a1 : Nat) (P : PG) (o : Nat) (cn : Nat → Nat → Nat → Bool) : Prop := Wl M ∧ mR M 48 7 = a1 ∧ PgC M a1 P ∧ mI M 48 8 = nI o ∧ ∃ E, mJ M 34 = lR E ∧ Bd 1350 E ∧ ∀ p g q, p < 5 → g < 6 → q < 5 → cn p g q = decide (E (ix 15 p g q) < FARN)
def HdM (M : MM) (P : PG) (o : Nat) (cn : Nat → Nat → Nat → Bool) : Prop := Wl M ∧ PgM M P o ∧ ∃ F gg, mJ M 99 = mjR F gg ∧ Bd 630 F ∧ ∀ p g q, p < 5 → g < 6 → q < 5 → cn p g q = decide (F (ix 21 p g q) < FARN)
def SmH (Is Js : List Nat) (M M' : MM) : Prop := (∀ a k, ¬ (a = 48 ∧ k = 7) → mR M' a k = mR M a k) ∧ mK M' = mK M ∧ mz M' = mz M ∧ mn M' = mn M ∧ (∀ a, a ∉ Is → mI M' a = mI M a) ∧ ∀ a, a ∉ Js → mJ M' a = mJ M a
theorem Sm.h {Is Js : List Nat} {M M' : MM} (s : Sm Is Js M M') : SmH Is Js M M' := ⟨fun a k _ => by rw [s.r], s.k, s.z, s.n, s.i, s.j⟩
theorem SmH.trans {Is Js : List Nat} {M M1 M2 : MM} (a : SmH Is Js M M1) (b : SmH Is Js M1 M2) : SmH Is Js M M2 := ⟨fun x k h => (b.1 x k h).trans (a.1 x k h), b.2.1.trans a.2.1, b.2.2.1.trans a.2.2.1, b.2.2.2.1.trans a.2.2.2.1, fun x q => (b.2.2.2.2.1 x q).trans (a.2.2.2.2.1 x q), fun x q => (b.2.2.2.2.2 x q).trans (a.2.2.2.2.2 x q)⟩
theorem SmH.more {Is Js Is' Js' : List Nat} {M M' : MM} (h : SmH Is Js M M') (hi : ∀ a ∈ Is, a ∈ Is') (hj : ∀ a ∈ Js, a ∈ Js') : SmH Is' Js' M M' := ⟨h.1, h.2.1, h.2.2.1, h.2.2.2.1, fun a q => h.2.2.2.2.1 a (fun w => q (hi a w)), fun a q => h.2.2.2.2.2 a (fun w => q (hj a w))⟩
theorem SmH.i {Is Js : List Nat} {M M' : MM} (h : SmH Is Js M M') : ∀ a, a ∉ Is → mI M' a = mI M a := h.2.2.2.2.1
theorem SmH.j {Is Js : List Nat} {M M' : MM} (h : SmH Is Js M M') : ∀ a, a ∉ Js → mJ M' a = mJ M a := h.2.2.2.2.2
theorem Wl.smH {Is Js : List Nat} {M M' : MM} (h : Wl M) (s : SmH Is Js M M') : Wl M' := by
  refine ⟨fun a ha => by rw [s.2.1]; exact h.1 a ha, fun q hq => ?_⟩
  rw [s.1 q.1 q.2.1 (fun z => ?_)]
  · exact h.2 q hq
  · have : RRl.all (fun q => !(q.1 == 48 && q.2.1 == 7)) = true := by decide +kernel
    have := List.all_eq_true.mp this q hq
    rw [z.1, z.2] at this
    exact absurd this (by decide)
theorem PgC.smH {M M' : MM} {a : Nat} {P : PG} {Is Js : List Nat} (h : PgC M a P) (s : SmH Is Js M M') (hi : avd [4, 10, 12, 13, 19, 21] Is = true) : PgC M' a P := by
  unfold PgC at *
  rcases h.1 with rfl | rfl
  · rw [s.i 4 (avd_n hi (by decide)), s.i (4 + 6) (avd_n hi (by decide)), s.i (4 + 8) (avd_n hi (by decide))]
    exact h
  · rw [s.i 13 (avd_n hi (by decide)), s.i (13 + 6) (avd_n hi (by decide)), s.i (13 + 8) (avd_n hi (by decide))]
    exact h
theorem HereC.smH {M M' : MM} {nw : NW} {Is Js : List Nat} (h : HereC M nw) (s : SmH Is Js M M') (hi : avd [23, 25] Is = true) : HereC M' nw := by
  rcases nw with _ | ⟨p, H, q⟩
  · show mI M' 23 0 = nI 40 ∧ mI M' 23 2 = -1 ∧ mI M' 23 3 = 0
    rw [s.i 23 (avd_n hi (by decide))]
    exact h
  · show PlC M' 23 p H q
    unfold PlC
    rw [s.i 23 (avd_n hi (by decide)), s.i (23 + 2) (avd_n hi (by decide))]
    exact h
theorem CoC.smH {M M' : MM} {P : PG} {o : Nat} {nw : NW} {Is Js : List Nat} (h : CoC M P o nw) (s : SmH Is Js M M') (h1 : mI M' 1 12 = mI M 1 12) (hi : avd [4, 10, 12, 13, 19, 21, 23, 25] Is = true) : CoC M' P o nw := by
  obtain ⟨a1, a2, a3, ⟨b, b1, b2, b3⟩, a5, a6, a7⟩ := h
  refine ⟨a1.smH s, a2, a3, ⟨b, by rw [s.1 1 10 (by decide)]; exact b1, by rw [s.1 1 11 (by decide)]; exact b2, b3.smH s ?_⟩, by rw [h1]; exact a5, a6.smH s ?_, a7⟩
  · exact List.all_eq_true.mpr fun x hx => List.all_eq_true.mp hi x (by revert x; decide)
  · exact List.all_eq_true.mpr fun x hx => List.all_eq_true.mp hi x (by revert x; decide)
theorem CostC.smH {M M' : MM} {P : PG} {o : Nat} {Is Js : List Nat} (h : CostC M P o) (s : SmH Is Js M M') (h1 : mI M' 1 13 = mI M 1 13) (hj : avd [34, 36, 41] Js = true) : CostC M' P o := by
  unfold CostC at *
  rw [h1, s.j 34 (avd_n hj (by decide)), s.j 36 (avd_n hj (by decide)), s.j 41 (avd_n hj (by decide))]
  exact h
theorem HdC.sm {M M' : MM} {a1 o : Nat} {P : PG} {cn : Nat → Nat → Nat → Bool} {Is Js : List Nat} (h : HdC M a1 P o cn) (s : Sm Is Js M M') (hi : avd [4, 10, 12, 13, 19, 21, 48] Is = true) (hj : 34 ∉ Js) : HdC M' a1 P o cn := by
  obtain ⟨w, h1, h2, h3, E, e1, e2⟩ := h
  refine ⟨w.sm s, by rw [s.r]; exact h1, h2.sm s ?_, by rw [s.i 48 (avd_n hi (by decide))]; exact h3, E, by rw [s.j 34 hj]; exact e1, e2⟩
  exact List.all_eq_true.mpr fun x hx => List.all_eq_true.mp hi x (by revert x; decide)
theorem HdM.sm {M M' : MM} {o : Nat} {P : PG} {cn : Nat → Nat → Nat → Bool} {Is Js : List Nat} (h : HdM M P o cn) (s : Sm Is Js M M') (h5 : mI M' 86 5 = mI M 86 5) (hi : avd [87, 89, 90] Is = true) (hj : 99 ∉ Js) : HdM M' P o cn := by
  obtain ⟨w, h1, F, gg, e1, e2⟩ := h
  exact ⟨w.sm s, h1.sm s h5 (avd_n hi (by decide)) (avd_n hi (by decide)) (avd_n hi (by decide)), F, gg, by rw [s.j 99 hj]; exact e1, e2⟩
section HEADS
variable {M : MM} {P : PG} {o a1 : Nat} {cn : Nat → Nat → Nat → Bool} {nw : NW}
theorem S11_settleH (h : CoC M P o nw) (hc : CostC M P o) (hcn : CnOK P o cn) : ∃ M' a1, f11_settleHeads M 1 = some M' ∧ HdC M' a1 P o cn ∧ SmH [1, 48] [34, 36] M M' ∧ (∀ j, j ≠ 13 → mI M' 1 j = mI M 1 j) ∧ CoC M' P o nw ∧ CostC M' P o := by
  obtain ⟨M1, E, R, d1, d2, d3, d4, d5, d6, d7, d8⟩ := S11_settle h hc
  have h1 := h.sm d2 (d3 12 (by decide)) (by decide)
  have w1 := h1.w
  have hc1 : CostC M1 P o := ⟨.inr d4, ⟨E, R, d5, d6, d7, fun _ => d8⟩, by rw [d2.j 41 (by decide)]; exact hc.2.2⟩
  obtain ⟨a1, b1, b2, b3⟩ := h1.2.2.2.1
  have sH : SmH [1, 48] [34, 36] M1 (sI (sR M1 48 7 a1) 48 8 (nI o)) := by
    refine ⟨fun a k hk => ?_, rfl, rfl, rfl, fun a ha => ?_, fun a _ => rfl⟩
    · show mR (sR M1 48 7 a1) a k = _
      rw [mR_sR, if_neg hk]
    · rw [sI_e, mI_uI, if_neg (fun q => ha (by rw [q]; decide))]
      rfl
  have w2 : Wl (sR M1 48 7 a1) := w1.smH (Is := []) (Js := []) ⟨fun a k hk => by rw [mR_sR, if_neg hk], rfl, rfl, rfl, fun _ _ => rfl, fun _ _ => rfl⟩
  have i1 : mI (sI (sR M1 48 7 a1) 48 8 (nI o)) 1 = mI M1 1 := by
    rw [sI_e, mI_uI, if_neg (by decide)]
    rfl
  refine ⟨sI (sR M1 48 7 a1) 48 8 (nI o), a1, ?_, ⟨w1.smH sH, ?_, b3.smH sH (by decide), ?_, E, d5, d8.1, hcn.1 E R d8⟩, (d2.h.more (by decide) (by decide)).trans sH, fun j hj => by rw [i1]; exact d3 j hj, h1.smH sH (by rw [i1]) (by decide), ?_⟩
  · unfold f11_settleHeads f2_lookAt
    rw [aO_1 h.w, d1, cV_some, aO_1 w1, aO_1 w1, aO_1 w1, r_1_8 w1, aO_48 w1, b1, h1.2.2.2.2.1, aO_48 w1, bM_e, aO_48 w2, bM_e, cV_some]
  · show mR (sR M1 48 7 a1) 48 7 = a1
    rw [mR_sR, if_pos ⟨rfl, rfl⟩]
  · rw [mI_sI, if_pos ⟨rfl, rfl⟩]
  · refine hc1.smH (Is := [48]) (Js := []) ⟨sH.1, rfl, rfl, rfl, fun a ha => ?_, fun a _ => rfl⟩ (by rw [i1]) (by decide)
    rw [sI_e, mI_uI, if_neg (fun q => ha (by rw [q]; decide))]
    rfl
theorem HdM_of (h : CoM M P o nw) (ht : ToldOK M P o) (hcn : CnOK P o cn) : ∃ M', f12_layTold M 86 = some M' ∧ HdM M' P o cn ∧ Sm [86, 95, 96, 97, 98] [99] M M' ∧ (∀ j, j ≠ 30 → j ≠ 31 → mI M' 86 j = mI M 86 j) ∧ CoM M' P o nw ∧ ToldOK M' P o := by
  obtain ⟨M1, F, gg, b1, b2, b3, b4, b5, b6, b7, b8, b9⟩ := SM_told2 h ht
  exact ⟨M1, b1, ⟨b8.w, b8.pg, F, gg, b6, b7.bd, hcn.2 F b7⟩, b2, b3, b8, b9⟩
theorem hd_lt (hp : WP P) {r : Nat} (hr : r < pR P) : hdR P r < 30 := by
  have := hp.p5 hr
  have := hp.g6 hr
  unfold hdR
  omega
theorem hd_e {p g : Nat} : nI p * 6 + nI g = nI (6 * p + g) := by rw [lit_6, nI_mulN, nI_add, Nat.mul_comm]
theorem hd_e' {p g : Nat} : 6 * nI p + nI g = nI (6 * p + g) := by rw [lit_6, nI_mulN, nI_add]
theorem S2_headOfRule (h : HdC M a1 P o cn) (hp : WP P) {r : Nat} (hr : r < pR P) : f2_headOfRule M 48 (nI r) = some (nI (hdR P r), M) := by
  obtain ⟨w, h1, h2, h3, -⟩ := h
  unfold f2_headOfRule f2_headOf
  rw [aO_48 w, h1, h2.o w, S7_or0 w h2 hr hp, cI_some, aO_48 w, h1, h2.o w, S7_or1 w h2 hr hp, cI_some, cI_some, hd_e]
  rfl
theorem S2_canPop (h : HdC M a1 P o cn) {p g q : Nat} (hp5 : p < 5) (hg : g < 6) (hq : q < 5) : f2_canPop M 48 (nI p) (nI g) (nI q) = some (bI (cn p g q), M) := by
  obtain ⟨w, h1, h2, h3, E, e1, e2, e3⟩ := h
  have b := e2 _ (ix15_lt (show p < 15 by omega) hg (show q < 15 by omega))
  unfold f2_canPop
  rw [aO_48 w, r_48_6 w, aO_32 w, S1_edge (a := 32) w (.inl rfl) (by omega) hg (by omega), cJ_some, e1, litF, e3 p g q hp5 hg hq]
  show (if lN FARN ≤ lN (E (ix 15 p g q)) then _ else _) = _
  simp only [lN_leN FARN_lt (le63 b)]
  by_cases c : E (ix 15 p g q) < FARN
  · rw [if_neg (by omega), decide_eq_true c]
    rfl
  · rw [if_pos (by omega), decide_eq_false c]
    rfl
/-- the head on top behind a rule -/
theorem S2_behTop (h : HdC M a1 P o cn) (hp : WP P) {r : Nat} (hr : r < pR P) : f2_headBehind M 48 (nI r) (-1) = some (if rn P r = 0 then -1 else nI (6 * rt P r + ra P r), M) := by
  obtain ⟨w, h1, h2, h3, -⟩ := h
  unfold f2_headBehind f2_headOf
  rw [aO_48 w, h1, h2.o w, S7_or4 w h2 hr hp, cI_some, aO_48 w, h1, h2.o w, S7_or5 w h2 hr hp, cI_some, aO_48 w, h1, h2.o w, S7_or2 w h2 hr hp, cI_some, if_pos rfl]
  by_cases c : rn P r = 0
  · simp only [if_pos c, if_true]
  · have a6 := hp.a6 hr (by omega)
    simp only [if_neg c]
    rw [if_neg (nI_neM (by omega)), cI_some, hd_e]
theorem S2_beh (h : HdC M a1 P o cn) (hp : WP P) {r q : Nat} (hr : r < pR P) (hq : q < 5) : f2_headBehind M 48 (nI r) (nI q) = some (if rn P r = 2 ∧ cn (rt P r) (ra P r) q = true then nI (6 * q + rb P r) else -1, M) := by
  have h' := h
  obtain ⟨w, h1, h2, h3, -⟩ := h
  have n2 := hp.n2 hr
  have t5 := hp.t5 hr
  unfold f2_headBehind f2_headOf
  rw [aO_48 w, h1, h2.o w, S7_or4 w h2 hr hp, cI_some, aO_48 w, h1, h2.o w, S7_or5 w h2 hr hp, cI_some, aO_48 w, h1, h2.o w, S7_or2 w h2 hr hp, cI_some, if_neg (nI_neM (by omega))]
  by_cases c : rn P r ≤ 1
  · simp only [if_pos c, if_true]
    rw [if_neg (by omega)]
  · have a6 := hp.a6 hr (by omega)
    have b6 := hp.b6 hr (by omega)
    simp only [if_neg c, if_neg (show ¬ rn P r = 0 by omega)]
    rw [if_neg (nI_neM (by omega)), aO_48 w, S2_canPop h' t5 a6 hq, cI_some]
    by_cases c2 : cn (rt P r) (ra P r) q = true
    · rw [c2, bI_t, if_neg (by decide), cI_some, hd_e, if_pos ⟨by omega, rfl⟩]
    · rw [Bool.not_eq_true] at c2
      rw [c2, bI_f, if_pos rfl, if_neg (fun z => Bool.false_ne_true z.2)]
theorem SM_canPop (h : HdM M P o cn) {p g q : Nat} (hp5 : p < 5) (hg : g < 6) (hq : q < 5) : f12_canPop M 86 (nI p) (nI g) (nI q) = some (bI (cn p g q), M) := by
  obtain ⟨w, h1, F, gg, e1, e2, e3⟩ := h
  have hi := ix21_lt hp5 hg (show q < 21 by omega)
  have b := e2 _ hi
  unfold f12_canPop
  rw [aO_86 w, aO_86 w, r_86_28 w, SM_costOf w (.inl rfl) hp5 hg (by omega), cJ_some, e1, show mjR F gg (ix 21 p g q) = mjv (F (ix 21 p g q)) from if_pos hi, e3 p g q hp5 hg hq]
  simp only [mjv_lt0 b]
  by_cases c : F (ix 21 p g q) = FARN
  · rw [if_pos c, decide_eq_false (by omega)]
    rfl
  · rw [if_neg c, decide_eq_true (by omega)]
    rfl
/-- rows of numbers -/
def nR (n : Nat) (c : Nat → Nat) (g : Nat → Int32) : Nat → Int32 := fun i => if i < n then nI (c i) else g i
theorem nR_upx {n k v : Nat} {c : Nat → Nat} {g : Nat → Int32} (hk : k < n) : upx (nR n c g) k (nI v) = nR n (upx c k v) g := by
  funext i
  rw [upx_e]
  unfold nR
  rw [upx_e]
  by_cases q : i = k
  · rw [if_pos q, if_pos (by omega), if_pos q]
  · rw [if_neg q, if_neg q]
theorem nR_at {n k : Nat} {c : Nat → Nat} {g : Nat → Int32} (hk : k < n) : nR n c g k = nI (c k) := if_pos hk
end HEADS
