/-! MACHINES: all ten grow, at the class -/
section WIDE2
theorem dI_nL {b b' : Nat} (h : b ∈ dI) (h' : b' ∈ dL) : b ≠ b' := fun e => by
  have : dI.all (fun b => !dL.elem b) = true := by decide +kernel
  have := List.all_eq_true.mp this b h
  rw [e, List.elem_eq_true_of_mem h'] at this
  cases this
theorem dIL_lt {b : Nat} (h : b ∈ dI ++ dL) : b < 119 ∧ b ≠ 61 := by
  have : (dI ++ dL).all (fun b => decide (b < 119) && decide (b ≠ 61)) = true := by decide +kernel
  have := List.all_eq_true.mp this b h
  rw [Bool.and_eq_true, decide_eq_true_eq, decide_eq_true_eq] at this
  exact this
theorem LG.lt {M : MM} {ar len : Nat → Nat} (h : LG M ar len) {b : Nat} (hb : b ∈ dI ++ dL) : ar b < mz M := by
  have z := h.z
  rcases h.fr b hb with q | q
  · have : (dI ++ dL).all (fun b => decide (b + 1 < 119)) = true := by decide +kernel
    have := List.all_eq_true.mp this b hb
    rw [decide_eq_true_eq] at this
    omega
  · exact q.2
/-- a memory with one array more, and its object -/
theorem LG.grow {M M' : MM} {ar len : Nat → Nat} (h : LG M ar len) {b m kd : Nat} (hb : b ∈ dI ++ dL) (hkd : (b ∈ dI ∧ kd = 0) ∨ (b ∈ dL ∧ kd = 1)) (hR : ∀ a k, mR M' a k = if a = b ∧ k = 0 then mz M else if a = mz M then 0 else mR M a k) (hK : ∀ a, mK M' a = if a = mz M then (kd, m) else mK M a) (hz : mz M' = mz M + 1) : LG M' (upx ar b (mz M)) (upx len b m) := by
  have z := h.z
  have lt := dIL_lt hb
  refine ⟨⟨fun a ha => ?_, fun q hq => ?_⟩, by omega, fun b' hb' => ?_, fun b1 h1 b2 h2 e => ?_, fun b' hb' => ?_, fun b' hb' => ?_, fun b' hb' => ?_, ?_⟩
  · rw [hK, if_neg (by omega)]
    exact h.w.1 a ha
  · have : RRl.all (fun q => decide (q.1 < 119) && !((dI ++ dL).elem q.1 && q.2.1 == 0)) = true := by decide +kernel
    have := List.all_eq_true.mp this q hq
    rw [Bool.and_eq_true, decide_eq_true_eq] at this
    rw [hR, if_neg (fun w => by
      have t := this.2
      rw [w.1, w.2, List.elem_eq_true_of_mem hb] at t
      exact absurd t (by decide)), if_neg (by omega)]
    exact h.w.2 q hq
  · have l' := dIL_lt hb'
    rw [hR, upx_e]
    by_cases e : b' = b
    · rw [if_pos ⟨e, rfl⟩, if_pos e]
    · rw [if_neg (fun w => e w.1), if_neg (by omega), if_neg e]
      exact h.r0 b' hb'
  · rw [upx_e, upx_e] at e
    have l1 := h.lt h1
    have l2 := h.lt h2
    by_cases e1 : b1 = b
    · by_cases e2 : b2 = b
      · rw [e1, e2]
      · rw [if_pos e1, if_neg e2] at e
        omega
    · by_cases e2 : b2 = b
      · rw [if_neg e1, if_pos e2] at e
        omega
      · rw [if_neg e1, if_neg e2] at e
        exact h.ne b1 h1 b2 h2 e
  · rw [upx_e]
    by_cases e : b' = b
    · rw [if_pos e]
      exact .inr ⟨z, by omega⟩
    · rw [if_neg e]
      rcases h.fr b' hb' with q | q
      · exact .inl q
      · exact .inr ⟨q.1, by omega⟩
  · rw [upx_e, upx_e, hK]
    by_cases e : b' = b
    · rw [if_pos e, if_pos rfl, if_pos e]
      rcases hkd with w | w
      · rw [w.2]
      · exact absurd e (dI_nL hb' w.1)
    · have l1 := h.lt (List.mem_append_left dL hb')
      rw [if_neg e, if_neg (by omega), if_neg e]
      exact h.kI b' hb'
  · rw [upx_e, upx_e, hK]
    by_cases e : b' = b
    · rw [if_pos e, if_pos rfl, if_pos e]
      rcases hkd with w | w
      · exact absurd e.symm (dI_nL w.1 hb')
      · rw [w.2]
    · have l1 := h.lt (List.mem_append_right dI hb')
      rw [if_neg e, if_neg (by omega), if_neg e]
      exact h.kL b' hb'
  · rw [hR, hR, if_neg (fun w => lt.2 w.1.symm), if_neg (by omega), if_neg (fun w => lt.2 w.1.symm), if_neg (by omega)]
    exact h.sw
/-- some of the ten have grown -/
def WD (M0 : MM) (ar0 len0 : Nat → Nat) (M : MM) (ar len : Nat → Nat) : Prop := LG M ar len ∧ SmX [] [] M0 M ∧ mR M 61 = mR M0 61 ∧ ∀ b, b ∈ dI → len0 b ≤ len b ∧ ∀ i, i < len0 b → mI M (ar b) i = mI M0 (ar0 b) i
theorem WD.gI {M0 M : MM} {ar0 len0 ar len : Nat → Nat} (h : WD M0 ar0 len0 M ar len) {b m : Nat} (hb : b ∈ dI) (hnm : len b < m) (hm : m ≤ 60000000) : ∃ M' ar', f3_widen M b (nI m) = some M' ∧ WD M0 ar0 len0 M' ar' (upx len b m) ∧ mz M' = mz M + 1 ∧ mn M' = mn M + m := by
  obtain ⟨g, s, r6, v⟩ := h
  have hbb : b ∈ dI ++ dL := List.mem_append_left _ hb
  have z := g.z
  have lt := dIL_lt hbb
  have rl := g.lt hbb
  obtain ⟨M1, hM1⟩ : ∃ M1, M1 = uI (nw M 0 m) (mz M) (fun k => if k < len b then mI M (ar b) k else 0) := ⟨_, rfl⟩
  have q := S3_widen (g.ints hb) (by omega) (by omega) hnm hm
  rw [← hM1] at q
  have R1 : mR M1 = mR (nw M 0 m) := by rw [hM1]; rfl
  have hR : ∀ a k, mR (uR M1 b (upx (mR M1 b) 0 (mz M))) a k = if a = b ∧ k = 0 then mz M else if a = mz M then 0 else mR M a k := fun a k => by
    rw [mR_uR]
    by_cases e : a = b
    · rw [if_pos e, upx_e]
      by_cases k0 : k = 0
      · rw [if_pos k0, if_pos ⟨e, k0⟩]
      · rw [if_neg k0, if_neg (fun w => k0 w.2), R1, mR_nwb, if_neg (by omega), if_neg (by omega), e]
    · rw [if_neg e, if_neg (fun w => e w.1), R1, mR_nwb]
      by_cases c : a = mz M
      · rw [if_pos c, if_pos c]
      · rw [if_neg c, if_neg c]
  have hK : ∀ a, mK (uR M1 b (upx (mR M1 b) 0 (mz M))) a = if a = mz M then (0, m) else mK M a := fun a => by
    rw [mK_uR, hM1, mK_uI, mK_nwb]
  have hz : mz (uR M1 b (upx (mR M1 b) 0 (mz M))) = mz M + 1 := by rw [mz_uR, hM1]; rfl
  have hI : ∀ a, a ≠ mz M → mI (uR M1 b (upx (mR M1 b) 0 (mz M))) a = mI M a := fun a ha => by
    rw [mI_uR, hM1, mI_uI, if_neg ha, mI_nwb, if_neg ha]
  have hJ : ∀ a, a ≠ mz M → mJ (uR M1 b (upx (mR M1 b) 0 (mz M))) a = mJ M a := fun a ha => by
    rw [mJ_uR, hM1, mJ_uI, mJ_nwb, if_neg ha]
  have hv : mI (uR M1 b (upx (mR M1 b) 0 (mz M))) (mz M) = fun k => if k < len b then mI M (ar b) k else 0 := by
    rw [mI_uR, hM1, mI_uI, if_pos rfl]
  refine ⟨_, upx ar b (mz M), q, ⟨g.grow hbb (.inl ⟨hb, rfl⟩) hR hK hz, s.trans ⟨fun a k h0 h1 h2 => ?_, fun a ha => by rw [hK, if_neg (by omega)], by omega, fun a ha _ => hI a (by omega), fun a ha _ => hJ a (by omega)⟩, ?_, fun b' hb' => ⟨?_, fun i hi => ?_⟩⟩, hz, by rw [mn_uR, hM1]; rfl⟩
  · rw [hR, if_neg (fun w => h2 ⟨by rw [w.1]; exact hbb, w.2⟩)]
    rw [if_neg (by omega)]
  · funext k
    rw [hR, if_neg (fun w => lt.2 w.1.symm), if_neg (by omega), r6]
  · rw [upx_e]
    split
    · next e => rw [e] at hb' ⊢; have := (v b hb).1; omega
    · exact (v b' hb').1
  · rw [upx_e]
    by_cases e : b' = b
    · rw [if_pos e, hv]
      have := (v b hb).1
      rw [e] at hi ⊢
      show (if i < len b then _ else _) = _
      rw [if_pos (by omega)]
      exact (v b hb).2 i hi
    · have := g.lt (List.mem_append_left dL hb')
      rw [if_neg e, hI _ (by omega)]
      exact (v b' hb').2 i hi
theorem WD.gJ {M0 M : MM} {ar0 len0 ar len : Nat → Nat} (h : WD M0 ar0 len0 M ar len) {b m : Nat} (hb : b ∈ dL) (hnm : len b < m) (hm : m ≤ 60000000) : ∃ M' ar', f4_widen M b (nI m) = some M' ∧ WD M0 ar0 len0 M' ar' (upx len b m) ∧ mz M' = mz M + 1 ∧ mn M' = mn M + m := by
  obtain ⟨g, s, r6, v⟩ := h
  have hbb : b ∈ dI ++ dL := List.mem_append_right _ hb
  have z := g.z
  have lt := dIL_lt hbb
  have rl := g.lt hbb
  obtain ⟨row, q⟩ := S4_widen (g.longs hb) (by omega) (by omega) hnm hm
  obtain ⟨M1, hM1⟩ : ∃ M1, M1 = uJ (nw M 1 m) (mz M) row := ⟨_, rfl⟩
  rw [← hM1] at q
  have R1 : mR M1 = mR (nw M 1 m) := by rw [hM1]; rfl
  have hR : ∀ a k, mR (uR M1 b (upx (mR M1 b) 0 (mz M))) a k = if a = b ∧ k = 0 then mz M else if a = mz M then 0 else mR M a k := fun a k => by
    rw [mR_uR]
    by_cases e : a = b
    · rw [if_pos e, upx_e]
      by_cases k0 : k = 0
      · rw [if_pos k0, if_pos ⟨e, k0⟩]
      · rw [if_neg k0, if_neg (fun w => k0 w.2), R1, mR_nwb, if_neg (by omega), if_neg (by omega), e]
    · rw [if_neg e, if_neg (fun w => e w.1), R1, mR_nwb]
      by_cases c : a = mz M
      · rw [if_pos c, if_pos c]
      · rw [if_neg c, if_neg c]
  have hK : ∀ a, mK (uR M1 b (upx (mR M1 b) 0 (mz M))) a = if a = mz M then (1, m) else mK M a := fun a => by
    rw [mK_uR, hM1, mK_uJ, mK_nwb]
  have hz : mz (uR M1 b (upx (mR M1 b) 0 (mz M))) = mz M + 1 := by rw [mz_uR, hM1]; rfl
  have hI : ∀ a, a ≠ mz M → mI (uR M1 b (upx (mR M1 b) 0 (mz M))) a = mI M a := fun a ha => by
    rw [mI_uR, hM1, mI_uJ, mI_nwb, if_neg ha]
  have hJ : ∀ a, a ≠ mz M → mJ (uR M1 b (upx (mR M1 b) 0 (mz M))) a = mJ M a := fun a ha => by
    rw [mJ_uR, hM1, mJ_uJ, if_neg ha, mJ_nwb, if_neg ha]
  refine ⟨_, upx ar b (mz M), q, ⟨g.grow hbb (.inr ⟨hb, rfl⟩) hR hK hz, s.trans ⟨fun a k h0 h1 h2 => ?_, fun a ha => by rw [hK, if_neg (by omega)], by omega, fun a ha _ => hI a (by omega), fun a ha _ => hJ a (by omega)⟩, ?_, fun b' hb' => ⟨?_, fun i hi => ?_⟩⟩, hz, by rw [mn_uR, hM1]; rfl⟩
  · rw [hR, if_neg (fun w => h2 ⟨by rw [w.1]; exact hbb, w.2⟩)]
    rw [if_neg (by omega)]
  · funext k
    rw [hR, if_neg (fun w => lt.2 w.1.symm), if_neg (by omega), r6]
  · rw [upx_e, if_neg (dI_nL hb' hb)]
    exact (v b' hb').1
  · have := g.lt (List.mem_append_left dL hb')
    rw [upx_e, if_neg (dI_nL hb' hb), hI _ (by omega)]
    exact (v b' hb').2 i hi
theorem RMs_s (d : Nat) : RMs (d + 1) = RMs d * 2 := by
  unfold RMs
  rw [Nat.pow_succ]
  omega
theorem RMs_le {d : Nat} (h : d ≤ 6) : 64 ≤ RMs d ∧ RMs d ≤ 4096 := by
  have : 2 ^ d ≤ 2 ^ 6 := Nat.pow_le_pow_right (by decide) h
  have : 0 < 2 ^ d := Nat.pow_pos (by decide)
  unfold RMs
  omega
theorem S5_widen {M : MM} {ar : Nat → Nat} {d : Nat} (h : LY M ar d) (hd : d < 6) : ∃ M' ar', f5_widen M 61 = some M' ∧ LY M' ar' (d + 1) ∧ SmX [61] [] M M' ∧ (∀ k, k ≠ 12 → mI M' 61 k = mI M 61 k) ∧ mR M' 61 = mR M 61 ∧ (∀ b, b ∈ dI → ∀ i, i < ln d b → mI M' (ar' b) i = mI M (ar b) i) ∧ mz M' = mz M + 10 ∧ mn M' = mn M + 15 * RMs (d + 1) := by
  obtain ⟨g, h12, h6⟩ := h
  have w := g.w
  have rr := RMs_le h6
  have rs := RMs_s d
  obtain ⟨M0, hM0⟩ : ∃ M0, M0 = sI M 61 12 (nI (RMs (d + 1))) := ⟨_, rfl⟩
  have s0 : Sm [61] [] M M0 := by rw [hM0, sI_e]; exact (Sm.rfl [61] [] M).uI _ (List.mem_singleton.mpr rfl)
  have e12 : mI M0 61 12 = nI (RMs (d + 1)) := by rw [hM0, mI_sI, if_pos ⟨rfl, rfl⟩]
  have g0 := g.sm s0
  have l66 : ln d 66 = RMs d := rfl
  have l68 : ln d 68 = RMs d := rfl
  have l70 : ln d 70 = RMs d * 6 := rfl
  have l72 : ln d 72 = RMs d := rfl
  have l74 : ln d 74 = RMs d := rfl
  have l76 : ln d 76 = RMs d := rfl
  have l78 : ln d 78 = RMs d := rfl
  have l80 : ln d 80 = RMs d := rfl
  have l82 : ln d 82 = RMs d := rfl
  have l84 : ln d 84 = RMs d := rfl
  have W0 : WD M0 ar (ln d) M0 ar (ln d) := ⟨g0, SmX.rfl _ _ _, rfl, fun b _ => ⟨Nat.le_refl _, fun _ _ => rfl⟩⟩
  obtain ⟨M1, a1, q1, W1, z1, n1⟩ := W0.gI (b := 66) (m := RMs (d + 1)) (by decide) (by rw [l66]; omega) (by omega)
  obtain ⟨M2, a2, q2, W2, z2, n2⟩ := W1.gI (b := 68) (m := RMs (d + 1)) (by decide) (by simp only [upx_e]; rw [if_neg (by decide), l68]; omega) (by omega)
  obtain ⟨M3, a3, q3, W3, z3, n3⟩ := W2.gI (b := 70) (m := RMs (d + 1) * 6) (by decide) (by simp only [upx_e]; rw [if_neg (by decide), if_neg (by decide), l70]; omega) (by omega)
  obtain ⟨b5, b6, hb5, hb6, i5, i6, n56, o5, o6⟩ : ∃ b5 b6, mR M0 61 5 = b5 ∧ mR M0 61 6 = b6 ∧ b5 ∈ [72, 74] ∧ b6 ∈ [72, 74] ∧ b6 ≠ b5 ∧ (b5 = 72 ∨ b5 = 74) ∧ (b6 = 72 ∨ b6 = 74) := by
    rcases g0.sw with q | q
    · exact ⟨72, 74, q.1, q.2, by decide, by decide, by decide, .inl rfl, .inr rfl⟩
    · exact ⟨74, 72, q.1, q.2, by decide, by decide, by decide, .inr rfl, .inl rfl⟩
  have m5 : b5 ∈ dI := by rcases o5 with q | q <;> rw [q] <;> decide
  have m6 : b6 ∈ dI := by rcases o6 with q | q <;> rw [q] <;> decide
  have d5 : ln d b5 = RMs d := by rcases o5 with q | q <;> rw [q] <;> rfl
  have d6 : ln d b6 = RMs d := by rcases o6 with q | q <;> rw [q] <;> rfl
  obtain ⟨M4, a4, q4, W4, z4, n4⟩ := W3.gI (b := b5) (m := RMs (d + 1)) m5 (by simp only [upx_e]; rw [if_neg (by omega), if_neg (by omega), if_neg (by omega), d5]; omega) (by omega)
  obtain ⟨M5, a5, q5, W5, z5, n5⟩ := W4.gI (b := b6) (m := RMs (d + 1)) m6 (by simp only [upx_e]; rw [if_neg n56, if_neg (by omega), if_neg (by omega), if_neg (by omega), d6]; omega) (by omega)
  obtain ⟨M6, a6, q6, W6, z6, n6⟩ := W5.gI (b := 76) (m := RMs (d + 1)) (by decide) (by simp only [upx_e]; rw [if_neg (by omega), if_neg (by omega), if_neg (by decide), if_neg (by decide), if_neg (by decide), l76]; omega) (by omega)
  obtain ⟨M7, a7, q7, W7, z7, n7⟩ := W6.gI (b := 78) (m := RMs (d + 1)) (by decide) (by simp only [upx_e]; rw [if_neg (by decide), if_neg (by omega), if_neg (by omega), if_neg (by decide), if_neg (by decide), if_neg (by decide), l78]; omega) (by omega)
  obtain ⟨M8, a8, q8, W8, z8, n8⟩ := W7.gI (b := 80) (m := RMs (d + 1)) (by decide) (by simp only [upx_e]; rw [if_neg (by decide), if_neg (by decide), if_neg (by omega), if_neg (by omega), if_neg (by decide), if_neg (by decide), if_neg (by decide), l80]; omega) (by omega)
  obtain ⟨M9, a9, q9, W9, z9, n9⟩ := W8.gJ (b := 82) (m := RMs (d + 1)) (by decide) (by simp only [upx_e]; rw [if_neg (by decide), if_neg (by decide), if_neg (by decide), if_neg (by omega), if_neg (by omega), if_neg (by decide), if_neg (by decide), if_neg (by decide), l82]; omega) (by omega)
  obtain ⟨M10, a10, q10, W10, z10, n10⟩ := W9.gJ (b := 84) (m := RMs (d + 1)) (by decide) (by simp only [upx_e]; rw [if_neg (by decide), if_neg (by decide), if_neg (by decide), if_neg (by decide), if_neg (by omega), if_neg (by omega), if_neg (by decide), if_neg (by decide), if_neg (by decide), l84]; omega) (by omega)
  have row : ∀ {X : MM} {a l : Nat → Nat}, WD M0 ar (ln d) X a l → mI X 61 12 = nI (RMs (d + 1)) := fun W => by rw [W.2.1.i 61 (by decide) (by decide), e12]
  have b5' : ∀ {X : MM} {a l : Nat → Nat}, WD M0 ar (ln d) X a l → mR X 61 5 = b5 := fun W => by rw [W.2.2.1, hb5]
  have b6' : ∀ {X : MM} {a l : Nat → Nat}, WD M0 ar (ln d) X a l → mR X 61 6 = b6 := fun W => by rw [W.2.2.1, hb6]
  have O : ∀ {X : MM} {a l : Nat → Nat} {β : Type} {o : Option β} {b : Nat}, WD M0 ar (ln d) X a l → b ∈ dI → aO X b 3 o = o := fun W hb => aO_e (by rw [W.1.w.1 _ (dI_6 hb).1, (dI_6 hb).2])
  have O' : ∀ {X : MM} {a l : Nat → Nat} {β : Type} {o : Option β} {b : Nat}, WD M0 ar (ln d) X a l → b ∈ dL → aO X b 4 o = o := fun W hb => aO_e (by rw [W.1.w.1 _ (dL_7 hb).1, (dL_7 hb).2])
  refine ⟨M10, a10, ?_, ⟨W10.1.cg (fun b hb => ?_), row W10, by omega⟩, (s0.x (fun a ha _ => ha) (fun a ha _ => ha)).trans (W10.2.1.more (fun _ q => by cases q) (fun _ q => by cases q)), fun k hk => ?_, ?_, fun b hb i hi => ?_, ?_, ?_⟩
  · unfold f5_widen
    rw [aO_61 w, aO_61 w, h12, show (2 : Int32) = nI 2 from rfl, nI_mulN, ← rs, bM_e, ← hM0]
    rw [aO_61 W0.1.w, aO_61 W0.1.w, r_61_2 W0.1.w, O W0 (by decide), row W0, q1, cV_some]
    rw [aO_61 W1.1.w, aO_61 W1.1.w, r_61_3 W1.1.w, O W1 (by decide), row W1, q2, cV_some]
    rw [aO_61 W2.1.w, aO_61 W2.1.w, r_61_4 W2.1.w, O W2 (by decide), row W2, lit_6, nI_mulN, q3, cV_some]
    rw [aO_61 W3.1.w, aO_61 W3.1.w, b5' W3, O W3 m5, row W3, q4, cV_some]
    rw [aO_61 W4.1.w, aO_61 W4.1.w, b6' W4, O W4 m6, row W4, q5, cV_some]
    rw [aO_61 W5.1.w, aO_61 W5.1.w, r_61_7 W5.1.w, O W5 (by decide), row W5, q6, cV_some]
    rw [aO_61 W6.1.w, aO_61 W6.1.w, r_61_8 W6.1.w, O W6 (by decide), row W6, q7, cV_some]
    rw [aO_61 W7.1.w, aO_61 W7.1.w, r_61_9 W7.1.w, O W7 (by decide), row W7, q8, cV_some]
    rw [aO_61 W8.1.w, aO_61 W8.1.w, r_61_10 W8.1.w, O' W8 (by decide), row W8, q9, cV_some]
    rw [aO_61 W9.1.w, aO_61 W9.1.w, r_61_11 W9.1.w, O' W9 (by decide), row W9, q10, cV_some]
  · rw [show dI ++ dL = [66, 68, 70, 72, 74, 76, 78, 80, 82, 84] from rfl] at hb
    simp only [List.mem_cons, List.not_mem_nil, or_false] at hb
    simp only [upx_e]
    unfold ln
    rcases o5 with p5 | p5 <;> rcases o6 with p6 | p6 <;> rw [p5, p6] <;> first | (exact absurd (p6.trans p5.symm) n56) | (rcases hb with q | q | q | q | q | q | q | q | q | q <;> rw [q] <;> rfl)
  · rw [W10.2.1.i 61 (by decide) (by decide), hM0, mI_sI, if_neg (fun q => hk q.2)]
  · rw [W10.2.2.1, s0.r]
  · rw [(W10.2.2.2 b hb).2 i hi]
    have n61 := g.nf (a := 61) (List.mem_append_left dL hb) (by decide) (by decide)
    rw [s0.i _ (fun z => n61 (List.mem_singleton.mp z).symm)]
  · rw [z10, z9, z8, z7, z6, z5, z4, z3, z2, z1, s0.z]
  · rw [n10, n9, n8, n7, n6, n5, n4, n3, n2, n1, s0.n]
    omega
end WIDE2
