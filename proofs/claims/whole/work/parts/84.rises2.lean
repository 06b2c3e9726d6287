/-! HOW HIGH THE STACK CAN GROW: rounds -/
theorem LP3_s {A0 A1 A2 R : Type} (body : (A0 → A1 → A2 → Option R) → A0 → A1 → A2 → Option R) (n : Nat) : LP3 body (n + 1) = body (LP3 body n) := rfl
theorem LP4_s {A0 A1 A2 A3 R : Type} (body : (A0 → A1 → A2 → A3 → Option R) → A0 → A1 → A2 → A3 → Option R) (n : Nat) : LP4 body (n + 1) = body (LP4 body n) := rfl
theorem LP5_s {A0 A1 A2 A3 A4 R : Type} (body : (A0 → A1 → A2 → A3 → A4 → Option R) → A0 → A1 → A2 → A3 → A4 → Option R) (n : Nat) : LP5 body (n + 1) = body (LP5 body n) := rfl
theorem LP6_s {A0 A1 A2 A3 A4 A5 R : Type} (body : (A0 → A1 → A2 → A3 → A4 → A5 → Option R) → A0 → A1 → A2 → A3 → A4 → A5 → Option R) (n : Nat) : LP6 body (n + 1) = body (LP6 body n) := rfl
theorem LP7_s {A0 A1 A2 A3 A4 A5 A6 R : Type} (body : (A0 → A1 → A2 → A3 → A4 → A5 → A6 → Option R) → A0 → A1 → A2 → A3 → A4 → A5 → A6 → Option R) (n : Nat) : LP7 body (n + 1) = body (LP7 body n) := rfl
theorem LP8_s {A0 A1 A2 A3 A4 A5 A6 A7 R : Type} (body : (A0 → A1 → A2 → A3 → A4 → A5 → A6 → A7 → Option R) → A0 → A1 → A2 → A3 → A4 → A5 → A6 → A7 → Option R) (n : Nat) : LP8 body (n + 1) = body (LP8 body n) := rfl
theorem LP9_s {A0 A1 A2 A3 A4 A5 A6 A7 A8 R : Type} (body : (A0 → A1 → A2 → A3 → A4 → A5 → A6 → A7 → A8 → Option R) → A0 → A1 → A2 → A3 → A4 → A5 → A6 → A7 → A8 → Option R) (n : Nat) : LP9 body (n + 1) = body (LP9 body n) := rfl
theorem LP10_s {A0 A1 A2 A3 A4 A5 A6 A7 A8 A9 R : Type} (body : (A0 → A1 → A2 → A3 → A4 → A5 → A6 → A7 → A8 → A9 → Option R) → A0 → A1 → A2 → A3 → A4 → A5 → A6 → A7 → A8 → A9 → Option R) (n : Nat) : LP10 body (n + 1) = body (LP10 body n) := rfl
theorem LP11_s {A0 A1 A2 A3 A4 A5 A6 A7 A8 A9 A10 R : Type} (body : (A0 → A1 → A2 → A3 → A4 → A5 → A6 → A7 → A8 → A9 → A10 → Option R) → A0 → A1 → A2 → A3 → A4 → A5 → A6 → A7 → A8 → A9 → A10 → Option R) (n : Nat) : LP11 body (n + 1) = body (LP11 body n) := rfl
def foR (P : PG) (o : Nat) (cn : Nat → Nat → Nat → Bool) : Nat → Nat → (Nat → Nat) → Bool → (Nat → Nat) × Bool
  | 0, _, c, ch => (c, ch)
  | d + 1, j, c, ch => foR P o cn d (j + 1) (if rin P o j = true then stR P cn c j else c) (ch || (rin P o j && decide (c (hdR P j) < nwR P cn c j)))
section RIS2
variable {P : PG} {o a1 : Nat} {cn : Nat → Nat → Nat → Bool}
theorem HdC.r {M : MM} (h : HdC M a1 P o cn) (b : Nat) (r : Nat → Int32) (hb : avd [4, 10, 12, 13, 19, 21, 48] [b] = true) : HdC (uI M b r) a1 P o cn := h.sm ((Sm.rfl [b] [] M).uI _ (by simp)) hb (by simp)
theorem HdM.r {M : MM} (h : HdM M P o cn) (b : Nat) (r : Nat → Int32) (hb : avd [86, 87, 89, 90] [b] = true) : HdM (uI M b r) P o cn := h.sm ((Sm.rfl [b] [] M).uI _ (by simp)) (by rw [mI_uI, if_neg (fun q => avd_n hb (show 86 ∈ [86, 87, 89, 90] by decide) (by rw [q]; simp))]) (List.all_eq_true.mpr fun x hx => List.all_eq_true.mp hb x (by revert x; decide)) (by simp)
theorem foR_ok (hp : WP P) : ∀ d j c ch, j + d = pR P → Rg c → Rg (foR P o cn d j c ch).1 ∧ (∀ h, c h ≤ (foR P o cn d j c ch).1 h) ∧ ((foR P o cn d j c ch).2 = false → ch = false ∧ (foR P o cn d j c ch).1 = c) ∧ ((foR P o cn d j c ch).2 = true → ch = true ∨ ∃ h, h < 30 ∧ c h < (foR P o cn d j c ch).1 h)
  | 0, j, c, ch, _, hc => ⟨hc, fun _ => Nat.le_refl _, fun q => ⟨q, rfl⟩, fun q => .inl q⟩
  | d + 1, j, c, ch, hj, hc => by
    have hl := hd_lt hp (show j < pR P by omega)
    have hc' : Rg (if rin P o j = true then stR P cn c j else c) := by
      split
      · exact stR_rg hp hc (by omega)
      · exact hc
    have le' : ∀ h, c h ≤ (if rin P o j = true then stR P cn c j else c) h := fun h => by
      split
      · exact stR_le h
      · exact Nat.le_refl _
    obtain ⟨a, b, e, f⟩ := foR_ok hp d (j + 1) (if rin P o j = true then stR P cn c j else c) (ch || (rin P o j && decide (c (hdR P j) < nwR P cn c j))) (by omega) hc'
    refine ⟨a, fun h => Nat.le_trans (le' h) (b h), fun q => ?_, fun q => ?_⟩
    · obtain ⟨q1, q2⟩ := e q
      rw [Bool.or_eq_false_iff, Bool.and_eq_false_iff] at q1
      refine ⟨q1.1, q2.trans ?_⟩
      split
      · next ci =>
        have : ¬ c (hdR P j) < nwR P cn c j := by
          rcases q1.2 with q3 | q3
          · rw [ci] at q3
            cases q3
          · exact of_decide_eq_false q3
        unfold stR
        rw [if_neg this]
      · rfl
    · rcases f q with q1 | ⟨h, hh, q1⟩
      · rw [Bool.or_eq_true, Bool.and_eq_true] at q1
        rcases q1 with q1 | ⟨q1, q2⟩
        · exact .inl q1
        · have q3 := of_decide_eq_true q2
          refine .inr ⟨hdR P j, hl, Nat.lt_of_lt_of_le ?_ (b _)⟩
          rw [if_pos q1]
          unfold stR
          rw [if_pos q3, upx_e, if_pos rfl]
          exact q3
      · exact .inr ⟨h, hh, Nat.lt_of_le_of_lt (le' h) q1⟩
theorem L2_rise27 {M : MM} {g : Nat → Int32} (hd : HdC M a1 P o cn) (hp : WP P) (ho : o < 2 ^ 31) (rnd : Nat) {K12 : MM → Nat → Int32 → Int32 → Option MM} : ∀ (d j : Nat), j + d = pR P → ∀ f, d < f → ∀ c ch, Rg c →
    LP5 (f2_findRises_b27_body K12) f (uI M 50 (nR 30 c g)) 48 (bI ch) (nI rnd) (nI j) = K12 (uI M 50 (nR 30 (foR P o cn d j c ch).1 g)) 48 (bI (foR P o cn d j c ch).2) (nI (rnd + 1))
  | 0, j, hj, f + 1, _, c, ch, hc => by
    obtain ⟨w, h1, h2, h3, -⟩ := hd.r 50 (nR 30 c g) (by decide)
    have h14 := hp.2.2.1
    show f2_findRises_b27_body _ _ _ _ _ _ _ = _
    generalize LP5 (f2_findRises_b27_body K12) f = K
    unfold f2_findRises_b27_body foR
    rw [aO_48 w, h1, h2.o w, h2.r, if_pos (nI_le (by omega) (by omega)), nI_1]
  | d + 1, j, hj, f + 1, hf, c, ch, hc => by
    have hdc := hd.r 50 (nR 30 c g) (by decide)
    obtain ⟨w, h1, h2, h3, -⟩ := id hdc
    have h14 := hp.2.2.1
    have hjl : j < pR P := by omega
    have hc' : Rg (if rin P o j = true then stR P cn c j else c) := by
      split
      · exact stR_rg hp hc hjl
      · exact hc
    have ih := L2_rise27 (g := g) hd hp ho rnd (K12 := K12) d (j + 1) (by omega) f (by omega) (if rin P o j = true then stR P cn c j else c) (ch || (rin P o j && decide (c (hdR P j) < nwR P cn c j))) hc'
    refine Eq.trans ?_ ih
    show f2_findRises_b27_body _ _ _ _ _ _ _ = _
    generalize LP5 (f2_findRises_b27_body K12) f = K
    unfold f2_findRises_b27_body f2_findRises_b63
    rw [aO_48 w, h1, h2.o w, h2.r, if_neg (nI_ge (by omega) (by omega)), aO_48 w, aO_48 w, h2.o w, h3, S7_isIn w h2 hp (by omega) ho, cI_some, nI_1]
    by_cases ci : rin P o j = true
    · rw [ci, bI_t, if_neg (by decide), aO_48 w, S2_raisesBy hdc hp hc hjl, cI_some, if_pos rfl, Bool.true_and]
      by_cases q : c (hdR P j) < nwR P cn c j
      · rw [decide_eq_true q, bI_t, if_neg (by decide), Bool.or_true]
        rfl
      · rw [decide_eq_false q, bI_f, if_pos rfl, Bool.or_false]
    · rw [if_neg ci]
      rw [Bool.not_eq_true] at ci
      rw [ci, bI_f, if_pos rfl, Bool.false_and, Bool.or_false]
theorem LM_rise35 {M : MM} {g : Nat → Int32} (hd : HdM M P o cn) (hp : WP P) (ho : o < 2 ^ 31) {K27 : MM → Nat → Int32 → Option MM} : ∀ (d j : Nat), j + d = pR P → ∀ f, d < f → ∀ c ch, Rg c →
    LP4 (f12_layRise_b35_body K27) f (uI M 105 (nR 30 (fun h => toM (c h)) g)) 86 (bI ch) (nI j) = K27 (uI M 105 (nR 30 (fun h => toM ((foR P o cn d j c ch).1 h)) g)) 86 (bI (foR P o cn d j c ch).2)
  | 0, j, hj, f + 1, _, c, ch, hc => by
    obtain ⟨w, h2, -⟩ := hd.r 105 (nR 30 (fun h => toM (c h)) g) (by decide)
    have h14 := hp.2.2.1
    show f12_layRise_b35_body _ _ _ _ _ _ = _
    generalize LP4 (f12_layRise_b35_body K27) f = K
    unfold f12_layRise_b35_body foR
    rw [aO_86 w, r_86_1 w, lit_2, aA_87 w (by omega), nI_clamp (by omega), h2.r, if_pos (nI_le (by omega) (by omega))]
  | d + 1, j, hj, f + 1, hf, c, ch, hc => by
    have hc' : Rg (if rin P o j = true then stR P cn c j else c) := by
      split
      · exact stR_rg hp hc (by omega)
      · exact hc
    have ih := LM_rise35 (g := g) hd hp ho (K27 := K27) d (j + 1) (by omega) f (by omega) (if rin P o j = true then stR P cn c j else c) (ch || (rin P o j && decide (c (hdR P j) < nwR P cn c j))) hc'
    exact (SM_rise35 (hd.r 105 (nR 30 (fun h => toM (c h)) g) (by decide)) hp ho hc (by omega) ch f).trans ih
theorem riseC0 (M : MM) (x : Int32) (n : Nat) : LP4 f2_findRises_b12_body (n + 1) M 48 (bI false) x = some M := by
  show f2_findRises_b12_body _ _ _ _ _ = _
  generalize LP4 f2_findRises_b12_body n = K
  unfold f2_findRises_b12_body
  rw [bI_f, if_pos rfl]
theorem riseM0 (M : MM) (n : Nat) : LP3 f12_layRise_b27_body (n + 1) M 86 (bI false) = some M := by
  show f12_layRise_b27_body _ _ _ _ = _
  generalize LP3 f12_layRise_b27_body n = K
  unfold f12_layRise_b27_body
  rw [bI_f, if_pos rfl]
theorem riseC1 {M : MM} {g : Nat → Int32} {a1 k : Nat} (hd : HdC M a1 P o cn) (hp : WP P) (ho : o < 2 ^ 31) {c : Nat → Nat} (hc : Rg c) (hk : k < 931) (fu : Nat) : LP4 f2_findRises_b12_body (fu + 1) (uI M 50 (nR 30 c g)) 48 (bI true) (nI k) = LP4 f2_findRises_b12_body fu (uI M 50 (nR 30 (foR P o cn (pR P) 0 c false).1 g)) 48 (bI (foR P o cn (pR P) 0 c false).2) (nI (k + 1)) := by
  have h14 := hp.2.2.1
  have q := L2_rise27 (g := g) hd hp ho k (K12 := LP4 f2_findRises_b12_body fu) (pR P) 0 (by omega) FU (FU_big (by omega)) c false hc
  show f2_findRises_b12_body _ _ _ _ _ = _
  generalize LP4 f2_findRises_b12_body fu = K at q ⊢
  unfold f2_findRises_b12_body
  rw [bI_t, if_neg (by decide), lit_931, if_neg (nI_ge hk (by omega))]
  exact q
theorem riseM1 {M : MM} {g : Nat → Int32} (hd : HdM M P o cn) (hp : WP P) (ho : o < 2 ^ 31) {c : Nat → Nat} (hc : Rg c) (fu : Nat) : LP3 f12_layRise_b27_body (fu + 1) (uI M 105 (nR 30 (fun h => toM (c h)) g)) 86 (bI true) = LP3 f12_layRise_b27_body fu (uI M 105 (nR 30 (fun h => toM ((foR P o cn (pR P) 0 c false).1 h)) g)) 86 (bI (foR P o cn (pR P) 0 c false).2) := by
  have h14 := hp.2.2.1
  have q := LM_rise35 (g := g) hd hp ho (K27 := LP3 f12_layRise_b27_body fu) (pR P) 0 (by omega) FU (FU_big (by omega)) c false hc
  rw [LP3_s]
  generalize LP3 f12_layRise_b27_body fu = K at q ⊢
  rw [bI_f, ← lit_0] at q
  unfold f12_layRise_b27_body f12_layRise_b35
  rw [bI_t, if_neg (by decide)]
  exact q
theorem rise_lock (hp : WP P) (ho : o < 2 ^ 31) {N T : Nat} (hN : N = 31 * T) (hN2 : N < 931) (hT : T = 30) : ∀ (d k : Nat) (c : Nat → Nat), Rg c → N ≤ smR c T + d → k + d ≤ N → ∃ cF, Rg cF ∧
    (∀ M g a1 fu, d + 1 < fu → HdC M a1 P o cn → LP4 f2_findRises_b12_body fu (uI M 50 (nR 30 c g)) 48 (bI true) (nI k) = some (uI M 50 (nR 30 cF g))) ∧
    ∀ M g fu, d + 1 < fu → HdM M P o cn → LP3 f12_layRise_b27_body fu (uI M 105 (nR 30 (fun h => toM (c h)) g)) 86 (bI true) = some (uI M 105 (nR 30 (fun h => toM (cF h)) g)) := by
  intro d
  induction d with
  | zero =>
    intro k c hc hs hk
    obtain ⟨a, b, e, f⟩ := foR_ok (o := o) (cn := cn) hp (pR P) 0 c false (Nat.zero_add _) hc
    have hfl : (foR P o cn (pR P) 0 c false).2 = false := by
      rw [← Bool.not_eq_true]
      intro q
      rcases f q with q | ⟨h, q1, q2⟩
      · cases q
      · have h1 := smR_lt T (fun h _ => b h) ⟨h, by rw [hT]; exact q1, q2⟩
        have h2 := smR_le (c := (foR P o cn (pR P) 0 c false).1) T (fun h hh => (a h (by rw [hT] at hh; exact hh)).2)
        omega
    have hsame := (e hfl).2
    refine ⟨c, hc, fun M g a1 fu hfu hd => ?_, fun M g fu hfu hd => ?_⟩
    · obtain ⟨f', rfl⟩ : ∃ q, fu = q + 1 + 1 := ⟨fu - 2, by omega⟩
      rw [riseC1 hd hp ho hc (by omega), hfl, hsame, riseC0]
    · obtain ⟨f', rfl⟩ : ∃ q, fu = q + 1 + 1 := ⟨fu - 2, by omega⟩
      rw [riseM1 hd hp ho hc, hfl, hsame, riseM0]
  | succ d ih =>
    intro k c hc hs hk
    obtain ⟨a, b, e, f⟩ := foR_ok (o := o) (cn := cn) hp (pR P) 0 c false (Nat.zero_add _) hc
    by_cases hfl : (foR P o cn (pR P) 0 c false).2 = true
    · have h1 : smR c T < smR (foR P o cn (pR P) 0 c false).1 T := by
        rcases f hfl with q | ⟨h, q1, q2⟩
        · cases q
        · exact smR_lt T (fun h _ => b h) ⟨h, by rw [hT]; exact q1, q2⟩
      obtain ⟨cF, i1, i2, i3⟩ := ih (k + 1) (foR P o cn (pR P) 0 c false).1 a (by omega) (by omega)
      refine ⟨cF, i1, fun M g a1 fu hfu hd => ?_, fun M g fu hfu hd => ?_⟩
      · obtain ⟨f', rfl⟩ : ∃ q, fu = q + 1 := ⟨fu - 1, by omega⟩
        rw [riseC1 hd hp ho hc (by omega), hfl]
        exact i2 M g a1 f' (by omega) hd
      · obtain ⟨f', rfl⟩ : ∃ q, fu = q + 1 := ⟨fu - 1, by omega⟩
        rw [riseM1 hd hp ho hc, hfl]
        exact i3 M g f' (by omega) hd
    · rw [Bool.not_eq_true] at hfl
      have hsame := (e hfl).2
      refine ⟨c, hc, fun M g a1 fu hfu hd => ?_, fun M g fu hfu hd => ?_⟩
      · obtain ⟨f', rfl⟩ : ∃ q, fu = q + 1 + 1 := ⟨fu - 2, by omega⟩
        rw [riseC1 hd hp ho hc (by omega), hfl, hsame, riseC0]
      · obtain ⟨f', rfl⟩ : ∃ q, fu = q + 1 + 1 := ⟨fu - 2, by omega⟩
        rw [riseM1 hd hp ho hc, hfl, hsame, riseM0]
theorem LM_rise6 {M : MM} (w : Wl M) {g : Nat → Int32} : ∀ (d j : Nat), j + d = 30 → ∀ f, d < f → LP3 f12_layRise_b6_body f (uI M 105 (nR j (fun _ => 1) g)) 86 (nI j) = f12_layRise_b27 (uI M 105 (nR 30 (fun _ => 1) g)) 86 1
  | 0, j, hj, f + 1, _ => by
    have e : j = 30 := by omega
    subst e
    show f12_layRise_b6_body _ _ _ _ = _
    generalize LP3 f12_layRise_b6_body f = K
    unfold f12_layRise_b6_body
    rw [lit_30, if_pos (nI_le (by omega) (by omega))]
  | d + 1, j, hj, f + 1, hf => by
    have w' : ∀ {r}, Wl (uI M 105 r) := w
    have ih := LM_rise6 w (g := g) d (j + 1) (by omega) f (by omega)
    rw [← ih]
    show f12_layRise_b6_body _ _ _ _ = _
    generalize LP3 f12_layRise_b6_body f = K
    unfold f12_layRise_b6_body
    rw [lit_30, if_neg (nI_ge (by omega) (by omega)), aO_86 w', r_86_37 w', aA_105 w' (by omega), nI_clamp (by omega), bM_e, sI_e, mI_uI, if_pos rfl, uI_uI, nI_1]
    congr 2
    funext i
    rw [upx_e]
    unfold nR
    by_cases c : i = j
    · rw [if_pos c, if_pos (by omega)]
      rfl
    · by_cases c2 : i < j
      · rw [if_neg c, if_pos c2, if_pos (by omega)]
      · rw [if_neg c, if_neg c2, if_neg (by omega)]
theorem nR_0 {n : Nat} {c : Nat → Nat} {r : Nat → Int32} (h : ∀ i, i < n → r i = nI (c i)) : nR n c r = r := by
  funext i
  unfold nR
  by_cases q : i < n
  · rw [if_pos q, h i q]
  · rw [if_neg q]
/-- both find the same rises -/
theorem rise_both (hp : WP P) (ho : o < 2 ^ 31) : ∃ cF, Rg cF ∧ (∀ M a1, HdC M a1 P o cn → f2_findRises M 48 = some (uI M 50 (nR 30 cF (mI M 50)))) ∧ ∀ M, HdM M P o cn → f12_layRise_b6 M 86 0 = some (uI M 105 (nR 30 (fun h => toM (cF h)) (mI M 105))) := by
  obtain ⟨cF, a, b, e⟩ := rise_lock (cn := cn) hp ho (N := 930) (T := 30) rfl (by omega) rfl 900 0 (fun _ => 1) (fun _ _ => ⟨Nat.le_refl 1, show 1 ≤ 31 by omega⟩) (by decide) (by omega)
  refine ⟨cF, a, fun M a1 hd => ?_, fun M hd => ?_⟩
  · have w := hd.1
    unfold f2_findRises
    rw [aO_48 w, r_48_0 w, aO_49 w, S3_fill (i_49 w) (by omega), cV_some]
    have q := b M (mI M 50) a1 FU (FU_big (by omega)) hd
    exact q
  · have w := hd.1
    have q := LM_rise6 w (g := mI M 105) 30 0 (by omega) FU (FU_big (by omega))
    have e0 : uI M 105 (nR 0 (fun _ => 1) (mI M 105)) = M := uI_eq (by
      funext i
      unfold nR
      rw [if_neg (Nat.not_lt_zero i)])
    rw [e0] at q
    have q2 := e M (mI M 105) FU (FU_big (by omega)) hd
    exact q.trans q2
end RIS2
