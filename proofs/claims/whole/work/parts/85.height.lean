/-! WHICH STATES ARE COME TO ABOVE WHICH SIGN -/
def upS (P : PG) (cn : Nat → Nat → Nat → Bool) (p0 H : Nat) (s : Nat → Nat) : Nat → Nat → Bool
  | 0, q => decide (q = p0)
  | d + 1, q => (List.range (pS P)).any fun p => upS P cn p0 H s d p && cn p (s (H - 1 - d)) q
def BT (P : PG) (rb : Nat) (f : Nat → Bool) : Prop := rb < 32 ∧ ∀ q, q < 5 → rb.testBit q = (decide (q < pS P) && f q)
section UPD
variable {M : MM} {P : PG} {o a1 : Nat} {cn : Nat → Nat → Nat → Bool}
theorem L2_rb20 (hd : HdC M a1 P o cn) (hp : WP P) {rb g p : Nat} (hrb : rb < 32) (hg : g < 6) (hp5 : p < 5) : ∀ (d j : Nat), j + d = pS P → ∀ f, d < f → ∀ acc, acc < 32 →
    ∃ acc', (∀ K5, LP7 (f2_reachedBelow_b20_body K5) f M 48 (nI rb) (nI g) (nI acc) (nI p) (nI j) = K5 M 48 (nI rb) (nI g) (nI acc') (nI (p + 1))) ∧ acc' < 32 ∧ ∀ q, q < 5 → acc'.testBit q = (acc.testBit q || (decide (j ≤ q) && decide (q < pS P) && (rb.testBit p && cn p g q)))
  | 0, j, hj, f + 1, _, acc, ha => by
    obtain ⟨w, h1, h2, h3, -⟩ := id hd
    have p5 := hp.1
    refine ⟨acc, fun K5 => ?_, ha, fun q hq => ?_⟩
    · show f2_reachedBelow_b20_body _ _ _ _ _ _ _ _ _ = _
      generalize LP7 (f2_reachedBelow_b20_body K5) f = K
      unfold f2_reachedBelow_b20_body f2_reachedBelow_b67
      rw [bU (by omega) (by omega), nI_1]
      simp only [bI_1]
      by_cases c : rb.testBit p = true
      · rw [if_pos c, aO_48 w, h1, h2.o w, h2.s, if_pos (nI_le (by omega) (by omega))]
      · rw [if_neg c]
    · by_cases c : j ≤ q
      · rw [decide_eq_false (show ¬ q < pS P by omega), Bool.and_false, Bool.false_and, Bool.or_false]
      · rw [decide_eq_false c, Bool.false_and, Bool.false_and, Bool.or_false]
  | d + 1, j, hj, f + 1, hf, acc, ha => by
    obtain ⟨w, h1, h2, h3, -⟩ := id hd
    have p5 := hp.1
    by_cases c : rb.testBit p = true
    · obtain ⟨acc', i1, i2, i3⟩ := L2_rb20 hd hp hrb hg hp5 d (j + 1) (by omega) f (by omega) (if cn p g j = true then acc ||| 2 ^ j else acc) (by
        split
        · exact Nat.or_lt_two_pow (n := 5) ha (Nat.pow_lt_pow_right (by omega) (by omega))
        · exact ha)
      refine ⟨acc', fun K5 => ?_, i2, fun q hq => ?_⟩
      · rw [← i1 K5]
        show f2_reachedBelow_b20_body _ _ _ _ _ _ _ _ _ = _
        generalize LP7 (f2_reachedBelow_b20_body K5) f = K
        unfold f2_reachedBelow_b20_body f2_reachedBelow_b61
        rw [bU (by omega) (by omega), c, if_pos bI_t, aO_48 w, h1, h2.o w, h2.s, if_neg (nI_ge (by omega) (by omega)), aO_48 w, S2_canPop hd hp5 hg (by omega), cI_some, nI_1]
        by_cases q : cn p g j = true
        · rw [q, bI_t, if_neg (by decide), if_pos rfl, shl_nI (by omega), nI_or, bW_e]
        · rw [if_neg q]
          rw [Bool.not_eq_true] at q
          rw [q, bI_f, if_pos rfl]
      · rw [i3 q hq, c, Bool.true_and]
        by_cases e : q = j
        · subst e
          rw [decide_eq_false (show ¬ q + 1 ≤ q by omega), decide_eq_true (Nat.le_refl q), decide_eq_true (show q < pS P by omega), Bool.false_and, Bool.false_and, Bool.or_false, Bool.true_and, Bool.true_and]
          split
          · next z => rw [Nat.testBit_or, Nat.testBit_two_pow, z, decide_eq_true rfl]
          · next z =>
            rw [Bool.not_eq_true] at z
            rw [z, Bool.or_false]
        · have e1 : (if cn p g j = true then acc ||| 2 ^ j else acc).testBit q = acc.testBit q := by
            split
            · rw [Nat.testBit_or, Nat.testBit_two_pow, decide_eq_false (fun z => e z.symm), Bool.or_false]
            · rfl
          rw [e1]
          by_cases c2 : j + 1 ≤ q
          · rw [decide_eq_true c2, decide_eq_true (show j ≤ q by omega)]
          · rw [decide_eq_false c2, decide_eq_false (show ¬ j ≤ q by omega)]
    · refine ⟨acc, fun K5 => ?_, ha, fun q hq => ?_⟩
      · show f2_reachedBelow_b20_body _ _ _ _ _ _ _ _ _ = _
        generalize LP7 (f2_reachedBelow_b20_body K5) f = K
        unfold f2_reachedBelow_b20_body f2_reachedBelow_b67
        rw [bU (by omega) (by omega), nI_1, if_neg (by rw [bI_1]; exact c)]
      · rw [Bool.not_eq_true] at c
        rw [c, Bool.false_and, Bool.and_false, Bool.or_false]
theorem L2_rb5 (hd : HdC M a1 P o cn) (hp : WP P) {rb g : Nat} (hrb : rb < 32) (hg : g < 6) : ∀ (d j : Nat), j + d = pS P → ∀ f, d < f → ∀ acc, acc < 32 → (∀ q, q < 5 → acc.testBit q = (decide (q < pS P) && (List.range j).any fun p => rb.testBit p && cn p g q)) →
    ∃ acc', LP6 f2_reachedBelow_b5_body f M 48 (nI rb) (nI g) (nI acc) (nI j) = some (nI acc', M) ∧ BT P acc' (fun q => (List.range (pS P)).any fun p => rb.testBit p && cn p g q)
  | 0, j, hj, f + 1, _, acc, ha, hq => by
    obtain ⟨w, h1, h2, h3, -⟩ := id hd
    have p5 := hp.1
    have e : j = pS P := by omega
    rw [e] at hq
    refine ⟨acc, ?_, ha, hq⟩
    show f2_reachedBelow_b5_body _ _ _ _ _ _ _ = _
    generalize LP6 f2_reachedBelow_b5_body f = K
    unfold f2_reachedBelow_b5_body
    rw [aO_48 w, h1, h2.o w, h2.s, if_pos (nI_le (by omega) (by omega))]
  | d + 1, j, hj, f + 1, hf, acc, ha, hq => by
    obtain ⟨w, h1, h2, h3, -⟩ := id hd
    have p5 := hp.1
    obtain ⟨acc1, i1, i2, i3⟩ := L2_rb20 hd hp hrb hg (show j < 5 by omega) (pS P) 0 (by omega) FU (FU_big (by omega)) acc ha
    obtain ⟨acc', k1, k2⟩ := L2_rb5 hd hp hrb hg d (j + 1) (by omega) f (by omega) acc1 i2 (fun q hq5 => by
      rw [i3 q hq5, hq q hq5, any_succ, decide_eq_true (Nat.zero_le q), Bool.true_and, Bool.and_or_distrib_left])
    refine ⟨acc', ?_, k2⟩
    rw [← k1]
    have z := i1 (LP6 f2_reachedBelow_b5_body f)
    show f2_reachedBelow_b5_body _ _ _ _ _ _ _ = _
    generalize LP6 f2_reachedBelow_b5_body f = K at z ⊢
    unfold f2_reachedBelow_b5_body
    rw [aO_48 w, h1, h2.o w, h2.s, if_neg (nI_ge (by omega) (by omega))]
    exact z
theorem S2_reachedBelow (hd : HdC M a1 P o cn) (hp : WP P) {rb g : Nat} (hrb : rb < 32) (hg : g < 6) : ∃ rb', f2_reachedBelow M 48 (nI rb) (nI g) = some (nI rb', M) ∧ BT P rb' (fun q => (List.range (pS P)).any fun p => rb.testBit p && cn p g q) :=
  L2_rb5 hd hp hrb hg (pS P) 0 (by omega) FU (FU_big (by have := hp.1; omega)) 0 (by omega) (fun q _ => by simp)
theorem BT.next {rb rb' p0 H : Nat} {s : Nat → Nat} {d : Nat} (h5 : pS P ≤ 5) (h : BT P rb (upS P cn p0 H s d)) (h' : BT P rb' (fun q => (List.range (pS P)).any fun p => rb.testBit p && cn p (s (H - 1 - d)) q)) : BT P rb' (upS P cn p0 H s (d + 1)) := by
  refine ⟨h'.1, fun q hq => ?_⟩
  rw [h'.2 q hq]
  congr 1
  refine Bool.eq_iff_iff.mpr ?_
  show _ ↔ ((List.range (pS P)).any fun p => upS P cn p0 H s d p && cn p (s (H - 1 - d)) q) = true
  rw [any_iff, any_iff]
  refine exists_congr fun p => and_congr_right fun hp => ?_
  rw [h.2 p (by omega), decide_eq_true hp, Bool.true_and]
/-! the reference's table -/
def CU (P : PG) (cn : Nat → Nat → Nat → Bool) (p0 H : Nat) (s : Nat → Nat) (row : Nat → Int32) (h : Nat) : Prop := ∀ h' q, h ≤ h' → h' ≤ H → q < 5 → row (5 * h' + q) = bI (upS P cn p0 H s (H - h') q)
theorem LM_cu45 {row : Nat → Int32} (hd : HdM (uI M 107 row) P o cn) (hp : WP P) {p0 H : Nat} {s : Nat → Nat} (h21 : mI M 86 21 = nI H) (hH : H ≤ 40) (hs : ∀ i, i < H → mI M 92 i = nI (s i) ∧ s i < 6) {h q : Nat} (hh : h < H) (hq : q < 5) (hC : CU P cn p0 H s row (h + 1)) :
    ∀ (d j : Nat), j + d = pS P → ∀ f, d < f → ∀ K15, LP6 (f12_layComesUp_b45_body K15) f (uI M 107 row) 86 (nI h) (nI q) (bI ((List.range j).any fun p => upS P cn p0 H s (H - (h + 1)) p && cn p (s h) q)) (nI j) = f12_layComesUp_b108 K15 (uI M 107 row) 86 (nI h) (nI q) (bI ((List.range (pS P)).any fun p => upS P cn p0 H s (H - (h + 1)) p && cn p (s h) q))
  | 0, j, hj, f + 1, _, K15 => by
    obtain ⟨w, h2, -⟩ := id hd
    have p5 := hp.1
    have e : j = pS P := by omega
    rw [e]
    show f12_layComesUp_b45_body _ _ _ _ _ _ _ _ = _
    generalize LP6 (f12_layComesUp_b45_body K15) f = K
    unfold f12_layComesUp_b45_body
    rw [aO_86 w, SM_states w h2, cI_some, if_pos (nI_le (Nat.le_refl _) (by omega))]
  | d + 1, j, hj, f + 1, hf, K15 => by
    obtain ⟨w, h2, -⟩ := id hd
    have p5 := hp.1
    have ih := LM_cu45 hd hp h21 hH hs hh hq hC d (j + 1) (by omega) f (by omega) K15
    obtain ⟨s1, s2⟩ := hs h hh
    have row1 : mI (uI M 107 row) 107 = row := by rw [mI_uI, if_pos rfl]
    rw [any_succ] at ih
    refine Eq.trans ?_ ih
    show f12_layComesUp_b45_body _ _ _ _ _ _ _ _ = _
    generalize LP6 (f12_layComesUp_b45_body K15) f = K
    unfold f12_layComesUp_b45_body f12_layComesUp_b99 f12_layComesUp_b100
    rw [aO_86 w, SM_states w h2, cI_some, if_neg (nI_ge (by omega) (by omega)), aO_86 w, show mI (uI M 107 row) 86 21 = nI H from h21, if_neg (nI_ge hh (by omega)), aO_86 w, r_86_39 w, nI_1, lit_5, nI_mulN, nI_add, aA_107 w (by omega), nI_clamp (by omega), row1, hC (h + 1) j (by omega) (by omega) (by omega), aO_86 w, r_86_17 w, aA_92 w (by omega), nI_clamp (by omega), aO_86 w, show mI (uI M 107 row) 92 h = nI (s h) from s1, SM_canPop hd (by omega) s2 hq, cI_some, nI_1]
    by_cases c1 : upS P cn p0 H s (H - (h + 1)) j = true
    · rw [c1, bI_t, if_neg (by decide), Bool.true_and]
      by_cases c2 : cn j (s h) q = true
      · rw [c2, bI_t, if_neg (by decide), bW_e, ← bI_t, bI_or]
      · rw [Bool.not_eq_true] at c2
        rw [c2, bI_f, if_pos rfl, bW_e, ← bI_f, bI_or]
    · rw [Bool.not_eq_true] at c1
      rw [c1, bI_f, if_pos rfl, bW_e, Bool.false_and, ← bI_f, bI_or]
theorem LM_cu15 (hd : HdM M P o cn) (hp : WP P) {p0 H : Nat} {s : Nat → Nat} (h20 : mI M 86 20 = nI p0) (h21 : mI M 86 21 = nI H) (hp0 : p0 < 5) (hH : H ≤ 40) (hs : ∀ i, i < H → mI M 92 i = nI (s i) ∧ s i < 6) {h : Nat} (hh : h ≤ H) :
    ∀ (d j : Nat), j + d = 5 → ∀ f, d < f → ∀ row, CU P cn p0 H s row (h + 1) → (∀ q, q < j → row (5 * h + q) = bI (upS P cn p0 H s (H - h) q)) →
    ∃ row', (∀ K9, LP4 (f12_layComesUp_b15_body K9) f (uI M 107 row) 86 (nI h) (nI j) = K9 (uI M 107 row') 86 (nI h - 1)) ∧ CU P cn p0 H s row' h
  | 0, j, hj, f + 1, _, row, hC, hr => by
    have e : j = 5 := by omega
    subst e
    refine ⟨row, fun K9 => ?_, fun h' q h1 h2 h3 => ?_⟩
    · show f12_layComesUp_b15_body _ _ _ _ _ _ = _
      generalize LP4 (f12_layComesUp_b15_body K9) f = K
      unfold f12_layComesUp_b15_body
      rw [lit_5, if_pos (nI_le (by omega) (by omega)), Int32.sub_eq_add_neg]
    · by_cases e : h' = h
      · rw [e]
        exact hr q h3
      · exact hC h' q (by omega) h2 h3
  | d + 1, j, hj, f + 1, hf, row, hC, hr => by
    have p5 := hp.1
    have hj5 : j < 5 := by omega
    have hdr := hd.r 107 row (by decide)
    obtain ⟨w, h2, -⟩ := id hdr
    obtain ⟨row', i1, i2⟩ := LM_cu15 hd hp h20 h21 hp0 hH hs hh d (j + 1) (by omega) f (by omega) (upx row (5 * h + j) (bI (upS P cn p0 H s (H - h) j))) (fun h' q a b c => by
      rw [upx_e, if_neg (by omega)]
      exact hC h' q a b c) (fun q hq => by
      rw [upx_e]
      by_cases e : q = j
      · rw [if_pos (by omega), e]
      · rw [if_neg (by omega)]
        exact hr q (by omega))
    refine ⟨row', fun K9 => ?_, i2⟩
    rw [← i1 K9]
    show f12_layComesUp_b15_body _ _ _ _ _ _ = _
    generalize LP4 (f12_layComesUp_b15_body K9) f = K
    have e108 : ∀ b : Bool, b = upS P cn p0 H s (H - h) j → f12_layComesUp_b108 K (uI M 107 row) 86 (nI h) (nI j) (bI b) = K (uI M 107 (upx row (5 * h + j) (bI (upS P cn p0 H s (H - h) j)))) 86 (nI h) (nI (j + 1)) := fun b hb => by
      unfold f12_layComesUp_b108
      rw [aO_86 w, r_86_39 w, lit_5, nI_mulN, nI_add, aA_107 w (by omega), nI_clamp (by omega), gd_e (bI_gd _), bM_e, sI_e, mI_uI, if_pos rfl, uI_uI, hb, nI_1]
    unfold f12_layComesUp_b15_body f12_layComesUp_b40 f12_layComesUp_b41
    rw [lit_5, if_neg (nI_ge hj5 (by omega)), aO_86 w, show mI (uI M 107 row) 86 21 = nI H from h21, aO_86 w, show mI (uI M 107 row) 86 20 = nI p0 from h20]
    simp only [c_eq (show h < 2 ^ 31 by omega) (show H < 2 ^ 31 by omega), c_eq (show j < 2 ^ 31 by omega) (show p0 < 2 ^ 31 by omega)]
    by_cases c : h = H
    · -- at the top
      obtain ⟨n, hn⟩ : ∃ n, FU = n + 1 := ⟨FU - 1, by have : (8 : Nat) < FU := FU_big (by omega); omega⟩
      have top : ∀ b : Bool, f12_layComesUp_b45 K (uI M 107 row) 86 (nI h) (nI j) (bI b) 0 = f12_layComesUp_b108 K (uI M 107 row) 86 (nI h) (nI j) (bI b) := fun b => by
        unfold f12_layComesUp_b45
        rw [hn, LP6_s]
        generalize LP6 (f12_layComesUp_b45_body K) n = K2
        unfold f12_layComesUp_b45_body
        rw [aO_86 w, SM_states w h2, cI_some]
        by_cases z : nI (pS P) ≤ 0
        · rw [if_pos z]
        · rw [if_neg z, aO_86 w, show mI (uI M 107 row) 86 21 = nI H from h21, if_pos (nI_le (by omega) (by omega))]
      have eu : upS P cn p0 H s (H - h) j = decide (j = p0) := by
        rw [c, Nat.sub_self]
        rfl
      rw [if_pos c]
      by_cases c2 : j = p0
      · have := top true
        rw [bI_t] at this
        rw [if_pos c2, this, ← bI_t]
        exact e108 true (by rw [eu, decide_eq_true c2])
      · have := top false
        rw [bI_f] at this
        rw [if_neg c2, this, ← bI_f]
        exact e108 false (by rw [eu, decide_eq_false c2])
    · rw [if_neg c]
      have q := LM_cu45 hdr hp h21 hH hs (show h < H by omega) hj5 hC (pS P) 0 (by omega) FU (FU_big (by omega)) K
      have eu : upS P cn p0 H s (H - h) j = (List.range (pS P)).any fun p => upS P cn p0 H s (H - (h + 1)) p && cn p (s h) j := by
        have e1 : H - h = (H - (h + 1)) + 1 := by omega
        rw [e1]
        show ((List.range (pS P)).any fun p => upS P cn p0 H s (H - (h + 1)) p && cn p (s (H - 1 - (H - (h + 1)))) j) = _
        rw [show H - 1 - (H - (h + 1)) = h by omega]
      refine Eq.trans q (e108 _ eu.symm)
theorem LM_cu9 (hd : HdM M P o cn) (hp : WP P) {p0 H : Nat} {s : Nat → Nat} (h20 : mI M 86 20 = nI p0) (h21 : mI M 86 21 = nI H) (hp0 : p0 < 5) (hH : H ≤ 40) (hs : ∀ i, i < H → mI M 92 i = nI (s i) ∧ s i < 6) :
    ∀ (n : Nat), n ≤ H + 1 → ∀ f, n < f → ∀ row, CU P cn p0 H s row n → ∃ row', LP3 f12_layComesUp_b9_body f (uI M 107 row) 86 (nI n - 1) = some (uI M 107 row') ∧ CU P cn p0 H s row' 0
  | 0, _, f + 1, _, row, hC => by
    refine ⟨row, ?_, hC⟩
    rw [nI_01, LP3_s]
    generalize LP3 f12_layComesUp_b9_body f = K
    unfold f12_layComesUp_b9_body
    rw [if_pos (by decide)]
  | n + 1, hn, f + 1, hf, row, hC => by
    obtain ⟨row1, i1, i2⟩ := LM_cu15 hd hp h20 h21 hp0 hH hs (show n ≤ H by omega) 5 0 (by omega) FU (FU_big (by omega)) row hC (fun q hq => absurd hq (Nat.not_lt_zero q))
    obtain ⟨row', k1, k2⟩ := LM_cu9 hd hp h20 h21 hp0 hH hs n (by omega) f (by omega) row1 i2
    refine ⟨row', ?_, k2⟩
    rw [← k1]
    have z := i1 (LP3 f12_layComesUp_b9_body f)
    rw [nI_sub1 (by omega), show n + 1 - 1 = n by omega, LP3_s]
    generalize LP3 f12_layComesUp_b9_body f = K at z ⊢
    unfold f12_layComesUp_b9_body
    rw [if_neg (nI_pos (by omega))]
    exact z
/-- which states come up, as the reference lays them -/
theorem SM_comesUp {p0 H : Nat} {s : Nat → Nat} (h : CoM M P o (some (p0, H, s))) (ht : ToldOK M P o) (hcn : CnOK P o cn) : ∃ M' row, f12_layComesUp M 86 = some M' ∧ mI M' 107 = row ∧ CU P cn p0 H s row 0 ∧ HdM M' P o cn ∧ Sm [86, 95, 96, 97, 98, 107] [99] M M' ∧ (∀ j, j ≠ 30 → j ≠ 31 → mI M' 86 j = mI M 86 j) ∧ CoM M' P o (some (p0, H, s)) ∧ ToldOK M' P o := by
  obtain ⟨M1, a1, a2, a3, a4, a5, a6⟩ := HdM_of h ht hcn
  obtain ⟨b1, b2, b3, b4⟩ := a5.2.2.2.2.1
  have b3' : mI M1 86 21 = nI H := b3
  obtain ⟨n1, n2, n3⟩ := a5.2.2.2.2.2.1
  have n1' : p0 < pS P := n1
  have n2' : H ≤ 40 := n2
  have p5 := h.p.1
  have w1 := a5.w
  obtain ⟨row', k1, k2⟩ := LM_cu9 (p0 := p0) (H := H) (s := s) a2 h.p b2 b3' (show p0 < 5 by omega) n2' (fun i hi => ⟨b4 i hi, Nat.lt_of_lt_of_le (n3 i hi) h.p.2.1⟩) (H + 1) (Nat.le_refl _) FU (FU_big (by omega)) (mI M1 107) (fun h' q a b => absurd b (by omega))
  rw [uI_self] at k1
  refine ⟨uI M1 107 row', row', ?_, by rw [mI_uI, if_pos rfl], k2, a2.r 107 row' (by decide), (a3.more (by decide) (by decide)).uI _ (by decide), fun j q1 q2 => ?_, ?_, ?_⟩
  · unfold f12_layComesUp
    rw [aO_86 h.w, a1, cV_some, aO_86 w1, b3', bW_e]
    have := k1
    rw [nI_sub1 (by omega), show H + 1 - 1 = H by omega] at this
    exact this
  · rw [mI_uI, if_neg (by decide)]
    exact a4 j q1 q2
  · exact a5.sm (Is := [107]) (Js := []) ((Sm.rfl _ _ M1).uI _ (by decide)) (by rw [mI_uI, if_neg (by decide)]) (fun j _ _ => by rw [mI_uI, if_neg (by decide)]) a5.sz (by decide)
  · unfold ToldOK at *
    rw [mI_uI, if_neg (by decide)]
    exact a6
end UPD
