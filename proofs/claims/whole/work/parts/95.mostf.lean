/-! THE MOST STEPS: from now, the class -/
section MOSTF
variable {P : PG} {o a1 : Nat} {cn : Nat → Nat → Nat → Bool} {l : Nat → Bool}
/-- what is told of the heads that matter -/
def EqD (P : PG) (o : Nat) (cn : Nat → Nat → Nat → Bool) (p0 H : Nat) (s : Nat → Nat) (A B : Nat → Nat) : Prop := ∀ d p, d < H → p < pS P → upS P cn p0 H s d p = true → B (6 * p + s (H - 1 - d)) = VB P o cn (6 * p + s (H - 1 - d)) ∧ ∀ q, q < 5 → A (5 * (6 * p + s (H - 1 - d)) + q) = VA P o cn (5 * (6 * p + s (H - 1 - d)) + q)
def nxT (P : PG) (o : Nat) (cn : Nat → Nat → Nat → Bool) (p0 H : Nat) (s : Nat → Nat) (d j q : Nat) : Nat := if q < pS P then mxN (fun p => sm (dpT P (VA P o cn) p0 H s d p) (VA P o cn (5 * (6 * p + s (H - 1 - d)) + q))) j else 0
theorem nxT_le {p0 H : Nat} {s : Nat → Nat} {d j : Nat} (q : Nat) : nxT P o cn p0 H s d j q ≤ CAPN + 1 := by
  unfold nxT
  split
  · exact mxN_le _ (fun p _ => sm_le _ _)
  · exact Nat.zero_le _
def mxT (P : PG) (o : Nat) (cn : Nat → Nat → Nat → Bool) (p0 H : Nat) (s : Nat → Nat) (d j : Nat) : Nat := max (dpM P (VA P o cn) (VB P o cn) p0 H s d) (mxN (fun p => sm (dpT P (VA P o cn) p0 H s d p) (VB P o cn (6 * p + s (H - 1 - d)))) j)
theorem mxT_le {p0 H : Nat} {s : Nat → Nat} {d j : Nat} : mxT P o cn p0 H s d j ≤ CAPN + 1 := Nat.max_le.mpr ⟨(dpM_le d).2, mxN_le _ (fun p _ => sm_le _ _)⟩
theorem L2_mf131 {M0 : MM} (hd0 : HdC M0 a1 P o cn) (hp : WP P) {N T : Nat → Nat} (hN : ∀ q, q < 5 → mJ M0 60 q = vv (N q)) (hT : ∀ q, q < 5 → mJ M0 58 q = vv (T q)) {x : Int64} {lv : Nat} : ∀ (d j : Nat), j + d = pS P → ∀ f, d < f → ∀ M, Sm [] [58] M0 M → (∀ q, q < 5 → mJ M 58 q = vv (if q < j then N q else T q)) →
    ∃ M', (∀ K32, LP6 (f2_mostStepsFrom_b131_body K32) f M 48 23 x (nI lv) (nI j) = K32 M' 48 23 x (nI lv + -1)) ∧ Sm [] [58] M0 M' ∧ ∀ q, q < 5 → mJ M' 58 q = vv (if q < pS P then N q else T q)
  | 0, j, hj, f + 1, _, M, s, h => by
    have hd : HdC M a1 P o cn := hd0.sm s (by decide) (by decide)
    obtain ⟨w, h1, h2, h3, -⟩ := id hd
    have p5 := hp.1
    have e : j = pS P := by omega
    rw [e] at h ⊢
    refine ⟨M, fun K32 => ?_, s, h⟩
    rw [LP6_s]
    generalize LP6 (f2_mostStepsFrom_b131_body K32) f = K
    unfold f2_mostStepsFrom_b131_body
    rw [aO_48 w, h1, h2.o w, h2.s, if_pos (nI_le (Nat.le_refl _) (by omega))]
  | d + 1, j, hj, f + 1, hf, M, s, h => by
    have hd : HdC M a1 P o cn := hd0.sm s (by decide) (by decide)
    obtain ⟨w, h1, h2, h3, -⟩ := id hd
    have p5 := hp.1
    have j5 : j < 5 := by omega
    obtain ⟨M', k1, k2, k3⟩ := L2_mf131 hd0 hp hN hT (x := x) (lv := lv) d (j + 1) (by omega) f (by omega) (uJ M 58 (upx (mJ M 58) j (vv (N j)))) (s.uJ _ (by decide)) (fun q hq => by
      rw [mJ_uJ, if_pos rfl, upx_e]
      by_cases e : q = j
      · rw [if_pos e, e, if_pos (by omega)]
      · rw [if_neg e, h q hq]
        by_cases e2 : q < j
        · rw [if_pos e2, if_pos (by omega)]
        · rw [if_neg e2, if_neg (by omega)])
    refine ⟨M', fun K32 => ?_, k2, k3⟩
    rw [← k1 K32, LP6_s]
    generalize LP6 (f2_mostStepsFrom_b131_body K32) f = K
    unfold f2_mostStepsFrom_b131_body
    rw [aO_48 w, h1, h2.o w, h2.s, if_neg (nI_ge (by omega) (by omega)), aO_48 w, aO_48 w, r_48_5 w, aO_59 w, g_59 w, cJ_some, gJ_in j5 (by omega), s.j 60 (by decide), hN j j5, r_48_4 w, aO_57 w, s_57 w, cV_some, pJ_in j5 (by omega), nI_1]
theorem L2_mf58 {M0 : MM} (hd0 : HdC M0 a1 P o cn) (hp : WP P) (hcn : CnOK P o cn) {A B : Nat → Nat} (h : ABr M0 54 56 A B) (bd : Bds A B) {p0 H : Nat} {s : Nat → Nat} (hH : H ≤ 40) (hs : ∀ i, i < H → s i < 6) (eq : EqD P o cn p0 H s A B) {dd : Nat} (hd2 : dd < H) (hT : ∀ q, q < pS P → mJ M0 58 q = vv (dpT P (VA P o cn) p0 H s dd q)) : ∀ (d j : Nat), j + d = pS P → ∀ f, d < f → ∀ M, Sm [] [60] M0 M → (∀ q, q < 5 → mJ M 60 q = vv (nxT P o cn p0 H s dd j q)) →
    ∃ M', (∀ K32, LP7 (f2_mostStepsFrom_b58_body K32) f M 48 23 (vv (mxT P o cn p0 H s dd j)) (nI (H - 1 - dd)) (nI (s (H - 1 - dd))) (nI j) = f2_mostStepsFrom_b131 K32 M' 48 23 (vv (mxT P o cn p0 H s dd (pS P))) (nI (H - 1 - dd)) 0) ∧ Sm [] [60] M0 M' ∧ ∀ q, q < 5 → mJ M' 60 q = vv (nxT P o cn p0 H s dd (pS P) q)
  | 0, j, hj, f + 1, _, M, sm0, hN => by
    have hd : HdC M a1 P o cn := hd0.sm sm0 (by decide) (by decide)
    obtain ⟨w, h1, h2, h3, -⟩ := id hd
    have p5 := hp.1
    have e : j = pS P := by omega
    rw [e] at hN ⊢
    refine ⟨M, fun K32 => ?_, sm0, hN⟩
    rw [LP7_s]
    generalize LP7 (f2_mostStepsFrom_b58_body K32) f = K
    unfold f2_mostStepsFrom_b58_body
    rw [aO_48 w, h1, h2.o w, h2.s, if_pos (nI_le (Nat.le_refl _) (by omega))]
  | d + 1, j, hj, f + 1, hf, M, sm0, hN => by
    have hd : HdC M a1 P o cn := hd0.sm sm0 (by decide) (by decide)
    obtain ⟨w, h1, h2, h3, -⟩ := id hd
    have p5 := hp.1
    have j5 : j < 5 := by omega
    have sg := hs (H - 1 - dd) (by omega)
    have hA : ABr M 54 56 A B := ⟨fun i hi => by rw [sm0.j 56 (by decide)]; exact h.1 i hi, fun i hi => by rw [sm0.j 54 (by decide)]; exact h.2 i hi⟩
    have ih := L2_mf58 hd0 hp hcn h bd hH hs eq hd2 hT d (j + 1) (by omega) f (by omega)
    have cell : mJ M 58 j = vv (dpT P (VA P o cn) p0 H s dd j) := by rw [sm0.j 58 (by decide), hT j (by omega)]
    have tl := dpT_le (P := P) (A := VA P o cn) (p0 := p0) (H := H) (s := s) dd j
    by_cases t0 : dpT P (VA P o cn) p0 H s dd j = 0
    · have e1 : mxT P o cn p0 H s dd (j + 1) = mxT P o cn p0 H s dd j := by
        show max _ (max _ (sm (dpT P (VA P o cn) p0 H s dd j) _)) = _
        rw [t0, sm_0', Nat.max_eq_left (Nat.zero_le _)]
        rfl
      have e2 : ∀ q, nxT P o cn p0 H s dd (j + 1) q = nxT P o cn p0 H s dd j q := fun q => by
        unfold nxT
        split
        · show max _ (sm (dpT P (VA P o cn) p0 H s dd j) _) = _
          rw [t0, sm_0', Nat.max_eq_left (Nat.zero_le _)]
        · rfl
      obtain ⟨M', k1, k2⟩ := ih M sm0 (fun q hq => by rw [e2]; exact hN q hq)
      refine ⟨M', fun K32 => ?_, k2⟩
      rw [← k1 K32, LP7_s, e1]
      generalize LP7 (f2_mostStepsFrom_b58_body K32) f = K
      unfold f2_mostStepsFrom_b58_body f2_mostStepsFrom_b122
      rw [aO_48 w, h1, h2.o w, h2.s, if_neg (nI_ge (by omega) (by omega)), aO_48 w, r_48_4 w, aO_57 w, g_57 w, cJ_some, gJ_in j5 (by omega), cell, if_pos ((vv_lt0 tl).mpr t0), nI_1]
    · obtain ⟨q1, q2⟩ := eq dd j hd2 (by omega) (dpT_up hp hcn hs dd j (by omega) j5 t0)
      obtain ⟨M1, g1, g2, g3⟩ := S2_goBelow hd hp hA bd.1 j5 sg tl t0 nxT_le hN
      have e1 : mxT P o cn p0 H s dd (j + 1) = max (mxT P o cn p0 H s dd j) (sm (dpT P (VA P o cn) p0 H s dd j) (VB P o cn (6 * j + s (H - 1 - dd)))) := by
        show max _ (max _ _) = _
        rw [← Nat.max_assoc]
        rfl
      obtain ⟨M', k1, k2⟩ := ih M1 (sm0.trans g2) (fun q hq => by
        rw [g3 q hq, q2 q hq]
        unfold nxT
        by_cases z : q < pS P
        · rw [if_pos z, if_pos z, if_pos z]
          rfl
        · rw [if_neg z, if_neg z, if_neg z])
      refine ⟨M', fun K32 => ?_, k2⟩
      rw [← k1 K32, LP7_s, e1]
      generalize LP7 (f2_mostStepsFrom_b58_body K32) f = K
      unfold f2_mostStepsFrom_b58_body f2_mostStepsFrom_b122 f2_headOf
      have bb := bd.2 (6 * j + s (H - 1 - dd))
      rw [aO_48 w, h1, h2.o w, h2.s, if_neg (nI_ge (by omega) (by omega)), aO_48 w, r_48_4 w, aO_57 w, g_57 w, cJ_some, gJ_in j5 (by omega), cell, if_neg (fun z => t0 ((vv_lt0 tl).mp z)), aO_48 w, cI_some, hd_e, r_48_2 w, aO_53 w, g_53 w, cJ_some, gJ_in (by omega) (by omega), hA.2 _ (by omega), S4_sv tl bb.2 t0 (by omega), cJ_some, q1, mxL_vv mxT_le (sm_le _ _), bW_e, aO_48 w, g1, cV_some, nI_1]
theorem L2_mf32 {M0 : MM} (hd0 : HdC M0 a1 P o cn) (hp : WP P) (hcn : CnOK P o cn) {A B : Nat → Nat} (h : ABr M0 54 56 A B) (bd : Bds A B) {p0 H : Nat} {s : Nat → Nat} (hpl : PlC M0 23 p0 H s) (hH : H ≤ 40) (hs : ∀ i, i < H → s i < 6) (eq : EqD P o cn p0 H s A B) : ∀ (n d : Nat), d + n = H → ∀ f, n < f → ∀ M, Sm [] [58, 60] M0 M → (∀ q, q < pS P → mJ M 58 q = vv (dpT P (VA P o cn) p0 H s d q)) →
    ∃ M', LP5 f2_mostStepsFrom_b32_body f M 48 23 (vv (dpM P (VA P o cn) (VB P o cn) p0 H s d)) (nI n - 1) = some (vv (dpM P (VA P o cn) (VB P o cn) p0 H s H), M') ∧ Sm [] [58, 60] M0 M'
  | 0, d, hn, f + 1, _, M, sm0, hT => by
    have e : d = H := by omega
    rw [e]
    refine ⟨M, ?_, sm0⟩
    rw [nI_01, LP5_s]
    generalize LP5 f2_mostStepsFrom_b32_body f = K
    unfold f2_mostStepsFrom_b32_body
    rw [if_pos (by decide)]
  | n + 1, d, hn, f + 1, hf, M, sm0, hT => by
    have hd : HdC M a1 P o cn := hd0.sm sm0 (by decide) (by decide)
    obtain ⟨w, h1, h2, h3, -⟩ := id hd
    have p5 := hp.1
    have hb : PlC M 23 p0 H s := by
      unfold PlC at *
      rw [sm0.i 23 (by decide), sm0.i (23 + 2) (by decide)]
      exact hpl
    obtain ⟨M1, hM1⟩ : ∃ M1, M1 = uJ M 60 (fun k => if k < 5 then -1 else mJ M 60 k) := ⟨_, rfl⟩
    have s1 : Sm [] [58, 60] M0 M1 := by rw [hM1]; exact sm0.uJ _ (by decide)
    have hd1 : HdC M1 a1 P o cn := hd0.sm s1 (by decide) (by decide)
    have hA1 : ABr M1 54 56 A B := ⟨fun i hi => by rw [s1.j 56 (by decide)]; exact h.1 i hi, fun i hi => by rw [s1.j 54 (by decide)]; exact h.2 i hi⟩
    have hT1 : ∀ q, q < pS P → mJ M1 58 q = vv (dpT P (VA P o cn) p0 H s d q) := fun q hq => by
      rw [hM1, mJ_uJ, if_neg (by decide)]
      exact hT q hq
    obtain ⟨M2, k1, k2, k3⟩ := L2_mf58 hd1 hp hcn hA1 bd hH hs eq (show d < H by omega) hT1 (pS P) 0 (by omega) FU (FU_big (by omega)) M1 (Sm.rfl _ _ _) (fun q hq => by
      rw [hM1, mJ_uJ, if_pos rfl, if_pos hq]
      unfold nxT
      split <;> rfl)
    have s2 : Sm [] [58, 60] M0 M2 := s1.trans (k2.more (by decide) (by decide))
    have hd2 : HdC M2 a1 P o cn := hd0.sm s2 (by decide) (by decide)
    have hT2 : ∃ T : Nat → Nat, ∀ q, q < 5 → mJ M2 58 q = vv (T q) := by
      have : ∀ x : Int64, ∃ t, x = vv t := fun x => by
        obtain ⟨n, -, e⟩ := lN_ex x
        exact ⟨n + 1, by rw [vv_s, e]⟩
      exact ⟨fun q => (this (mJ M2 58 q)).choose, fun q _ => (this (mJ M2 58 q)).choose_spec⟩
    obtain ⟨T, hT2⟩ := hT2
    obtain ⟨M3, y1, y2, y3⟩ := L2_mf131 hd2 hp k3 hT2 (x := vv (mxT P o cn p0 H s d (pS P))) (lv := H - 1 - d) (pS P) 0 (by omega) FU (FU_big (by omega)) M2 (Sm.rfl _ _ _) (fun q hq => by rw [hT2 q hq, if_neg (Nat.not_lt_zero _)])
    have s3 : Sm [] [58, 60] M0 M3 := s2.trans (y2.more (by decide) (by decide))
    obtain ⟨M', z1, z2⟩ := L2_mf32 hd0 hp hcn h bd hpl hH hs eq n (d + 1) (by omega) f (by omega) M3 s3 (fun q hq => by
      rw [y3 q (by omega), if_pos hq]
      unfold nxT
      rw [if_pos hq]
      rfl)
    refine ⟨M', ?_, z2⟩
    rw [← z1]
    have e0 : mxT P o cn p0 H s d 0 = dpM P (VA P o cn) (VB P o cn) p0 H s d := Nat.max_eq_left (Nat.zero_le _)
    have e1 : dpM P (VA P o cn) (VB P o cn) p0 H s (d + 1) = mxT P o cn p0 H s d (pS P) := rfl
    have q1 := k1 (LP5 f2_mostStepsFrom_b32_body f)
    have q2 := y1 (LP5 f2_mostStepsFrom_b32_body f)
    rw [e0] at q1
    rw [e1, LP5_s, nI_sub1 (by omega), show n + 1 - 1 = H - 1 - d by omega]
    generalize LP5 f2_mostStepsFrom_b32_body f = K at q1 q2 ⊢
    unfold f2_mostStepsFrom_b32_body
    rw [if_neg (nI_pos (by omega)), aO_23 w, S6_signAt w hb.1 (show H - 1 - d < 40 by omega), cI_some, hb.2.2.2.2.2 _ (by omega), aO_48 w, r_48_5 w, aO_59 w, S4_fill (i_59 w) (by omega), cV_some, ← hM1]
    refine q1.trans (q2.trans ?_)
    rw [show H - 1 - d = n by omega, ← Int32.sub_eq_add_neg]
theorem S2_mostFrom {M : MM} (hd : HdC M a1 P o cn) (hp : WP P) (hcn : CnOK P o cn) {A B : Nat → Nat} (h : ABr M 54 56 A B) (bd : Bds A B) {p0 H : Nat} {s : Nat → Nat} (hpl : PlC M 23 p0 H s) (hp0 : p0 < pS P) (hH : H ≤ 40) (hs : ∀ i, i < H → s i < 6) (eq : EqD P o cn p0 H s A B) :
    ∃ M', f2_mostStepsFrom M 48 23 = some (vv (dpM P (VA P o cn) (VB P o cn) p0 H s H), M') ∧ Sm [] [58, 60] M M' := by
  have w := hd.1
  have p5 := hp.1
  obtain ⟨M1, hM1⟩ : ∃ M1, M1 = uJ M 58 (fun k => if k < 5 then -1 else mJ M 58 k) := ⟨_, rfl⟩
  have s1 : Sm [] [58, 60] M M1 := by rw [hM1]; exact (Sm.rfl _ _ M).uJ _ (by decide)
  have w1 := w.sm s1
  obtain ⟨M2, hM2⟩ : ∃ M2, M2 = uJ M1 58 (upx (mJ M1 58) p0 0) := ⟨_, rfl⟩
  have s2 : Sm [] [58, 60] M M2 := by rw [hM2]; exact s1.uJ _ (by decide)
  have w2 := w.sm s2
  have hb1 : PlC M1 23 p0 H s := by
    unfold PlC at *
    rw [s1.i 23 (by decide), s1.i (23 + 2) (by decide)]
    exact hpl
  have hb2 : PlC M2 23 p0 H s := by
    unfold PlC at *
    rw [s2.i 23 (by decide), s2.i (23 + 2) (by decide)]
    exact hpl
  obtain ⟨M', k1, k2⟩ := L2_mf32 hd hp hcn h bd hpl hH hs eq H 0 (by omega) FU (FU_big (by omega)) M2 s2 (fun q hq => by
    rw [hM2, mJ_uJ, if_pos rfl, upx_e]
    unfold dpT
    by_cases e : q = p0
    · rw [if_pos e, if_pos e]
      rfl
    · rw [if_neg e, if_neg e, hM1, mJ_uJ, if_pos rfl, if_pos (by omega)]
      rfl)
  refine ⟨M', ?_, k2⟩
  rw [← k1]
  unfold f2_mostStepsFrom
  rw [aO_48 w, r_48_4 w, aO_57 w, S4_fill (i_57 w) (by omega), cV_some, ← hM1, aO_48 w1, aO_23 w1, r_48_4 w1, aO_57 w1, hb1.2.2.1, s_57 w1, cV_some, pJ_in (by omega) (by omega), ← hM2, aO_23 w2, hb2.2.2.2.1, bW_e]
  rfl
end MOSTF
