/-! GOING ON FOR EVER: the reference's closure; both sides -/
section RING
variable {P : PG} {o a1 : Nat} {cn : Nat → Nat → Nat → Bool}
/-- a row of the closure, so far -/
def WSr (m a j : Nat) (B : Nat → Bool) : Nat → Bool := fun i => if i / 30 = a ∧ i % 30 < j then B i || (B (30 * a + m) && B (30 * m + i % 30)) else B i
theorem LM_be198 {M : MM} {g : Nat → Int32} (w : Wl M) {m a : Nat} (hm : m < 30) (ha : a < 30) {B : Nat → Bool} (hB : B (30 * a + m) = true) {K190 : MM → Nat → Int32 → Int32 → Option MM} : ∀ (d j : Nat), j + d = 30 → ∀ f, d < f →
    LP5 (f12_layBehind_b198_body K190) f (uI M 106 (bR 900 (WSr m a j B) g)) 86 (nI m) (nI a) (nI j) = K190 (uI M 106 (bR 900 (WSr m a 30 B) g)) 86 (nI m) (nI (a + 1))
  | 0, j, hj, f + 1, _ => by
    have e : j = 30 := by omega
    subst e
    show f12_layBehind_b198_body _ _ _ _ _ _ _ = _
    generalize LP5 (f12_layBehind_b198_body K190) f = K
    unfold f12_layBehind_b198_body f12_layBehind_b249
    rw [lit_30, if_pos (nI_le (by omega) (by omega)), nI_1]
  | d + 1, j, hj, f + 1, hf => by
    have w' : ∀ {r}, Wl (uI M 106 r) := w
    have row : ∀ R, mI (uI M 106 R) 106 = R := fun R => by rw [mI_uI, if_pos rfl]
    have ih := LM_be198 (g := g) w hm ha hB (K190 := K190) d (j + 1) (by omega) f (by omega)
    rw [← ih]
    show f12_layBehind_b198_body _ _ _ _ _ _ _ = _
    generalize LP5 (f12_layBehind_b198_body K190) f = K
    have e1 : WSr m a j B (30 * a + m) = true := by
      unfold WSr
      split
      · rw [hB, Bool.true_or]
      · exact hB
    have e2 : WSr m a j B (30 * a + j) = B (30 * a + j) := if_neg (by omega)
    have e3 : WSr m a j B (30 * m + j) = B (30 * m + j) := if_neg (by omega)
    have e4 : upx (WSr m a j B) (30 * a + j) (B (30 * a + j) || B (30 * m + j)) = WSr m a (j + 1) B := by
      funext i
      rw [upx_e]
      unfold WSr
      by_cases c : i = 30 * a + j
      · rw [if_pos c, if_pos (by omega), c, hB, Bool.true_and, show (30 * a + j) % 30 = j by omega]
      · by_cases c2 : i / 30 = a ∧ i % 30 < j
        · rw [if_neg c, if_pos c2, if_pos (by omega)]
        · rw [if_neg c, if_neg c2, if_neg (by omega)]
    unfold f12_layBehind_b198_body
    rw [lit_30, if_neg (nI_ge (by omega) (by omega)), aO_86 w', r_86_38 w', nI_mulN, nI_add, aA_106 w' (by omega), nI_clamp (by omega), row, bR_at (by omega), e1, bI_t, if_neg (by decide), aO_86 w', nI_add, aA_106 w' (by omega), aO_86 w', nI_mulN, nI_add, aA_106 w' (by omega), aA_106 w' (by omega), nI_clamp (by omega), nI_clamp (by omega), bR_at (by omega), bR_at (by omega), e2, e3, bI_or, gd_e (bI_gd _), bM_e, sI_e, row, uI_uI, bR_upx (by omega), e4, nI_1]
theorem WS_row {m a : Nat} {B : Nat → Bool} (hm : m < 30) (ha : a < 30) : WSr m a 30 (WS m a B) = WS m (a + 1) B := by
  funext i
  unfold WSr
  by_cases c : i / 30 = a ∧ i % 30 < 30
  · rw [if_pos c]
    have e0 : WS m a B i = B i := if_neg (by omega)
    have e1 : WS m a B (30 * a + m) = B (30 * a + m) := if_neg (by omega)
    have e2 : WS m a B (30 * m + i % 30) = true ↔ B (30 * m + i % 30) = true := by
      unfold WS
      split
      · rw [show (30 * m + i % 30) / 30 = m by omega, show (30 * m + i % 30) % 30 = i % 30 by omega, Bool.or_eq_true, Bool.and_eq_true]
        exact ⟨fun q => q.elim id (fun q => q.2), .inl⟩
      · exact Iff.rfl
    have e3 : WS m (a + 1) B i = (B i || (B (30 * a + m) && B (30 * m + i % 30))) := by
      unfold WS
      rw [if_pos (by omega), c.1]
    rw [e0, e1, e3, Bool.eq_iff_iff.mpr e2]
  · rw [if_neg c]
    unfold WS
    by_cases c2 : i / 30 < a
    · rw [if_pos c2, if_pos (by omega)]
    · rw [if_neg c2, if_neg (by omega)]
theorem LM_be190 {M : MM} {g : Nat → Int32} (w : Wl M) {m : Nat} (hm : m < 30) {B : Nat → Bool} {K182 : MM → Nat → Int32 → Option MM} : ∀ (d a : Nat), a + d = 30 → ∀ f, d < f →
    LP4 (f12_layBehind_b190_body K182) f (uI M 106 (bR 900 (WS m a B) g)) 86 (nI m) (nI a) = K182 (uI M 106 (bR 900 (WS m 30 B) g)) 86 (nI (m + 1))
  | 0, a, hj, f + 1, _ => by
    have e : a = 30 := by omega
    subst e
    show f12_layBehind_b190_body _ _ _ _ _ _ = _
    generalize LP4 (f12_layBehind_b190_body K182) f = K
    unfold f12_layBehind_b190_body
    rw [lit_30, if_pos (nI_le (by omega) (by omega)), nI_1]
  | d + 1, a, hj, f + 1, hf => by
    have w' : ∀ {r}, Wl (uI M 106 r) := w
    have ih := LM_be190 (g := g) w hm (B := B) (K182 := K182) d (a + 1) (by omega) f (by omega)
    rw [← ih]
    show f12_layBehind_b190_body _ _ _ _ _ _ = _
    generalize LP4 (f12_layBehind_b190_body K182) f = K
    unfold f12_layBehind_b190_body
    rw [lit_30, if_neg (nI_ge (by omega) (by omega))]
    by_cases c : WS m a B (30 * a + m) = true
    · have q := LM_be198 (g := g) w hm (show a < 30 by omega) c (K190 := K) 30 0 (by omega) FU (FU_big (by omega))
      rw [WS_row hm (by omega)] at q
      have e0 : WSr m a 0 (WS m a B) = WS m a B := by
        funext i
        unfold WSr
        rw [if_neg (by omega)]
      rw [e0] at q
      exact q
    · have e0 : WS m (a + 1) B = WS m a B := by
        rw [← WS_row hm (by omega)]
        funext i
        unfold WSr
        rw [Bool.not_eq_true] at c
        rw [c]
        split
        · rw [Bool.false_and, Bool.or_false]
        · rfl
      obtain ⟨n, hn⟩ : ∃ n, FU = n + 1 := ⟨FU - 1, by have : (8 : Nat) < FU := FU_big (by omega); omega⟩
      rw [Bool.not_eq_true] at c
      rw [e0]
      unfold f12_layBehind_b198
      rw [hn, LP5_s]
      generalize LP5 (f12_layBehind_b198_body K) n = K2
      unfold f12_layBehind_b198_body f12_layBehind_b249
      rw [lit_30, if_neg (show ¬ nI 30 ≤ 0 from by decide), aO_86 w', r_86_38 w', nI_mulN, nI_add, aA_106 w' (by omega), nI_clamp (by omega), mI_uI, if_pos rfl, bR_at (by omega), c, bI_f, if_pos rfl, nI_1]
theorem LM_be182 {M : MM} {g : Nat → Int32} (w : Wl M) {ed : Nat → Nat → Bool} : ∀ (d m : Nat), m + d = 30 → ∀ f, d < f → ∀ B, WsJ ed m B → ∃ B', LP3 f12_layBehind_b182_body f (uI M 106 (bR 900 B g)) 86 (nI m) = some (uI M 106 (bR 900 B' g)) ∧ WsJ ed 30 B'
  | 0, m, hj, f + 1, _, B, hB => by
    have e : m = 30 := by omega
    subst e
    refine ⟨B, ?_, hB⟩
    show f12_layBehind_b182_body _ _ _ _ = _
    generalize LP3 f12_layBehind_b182_body f = K
    unfold f12_layBehind_b182_body
    rw [lit_30, if_pos (nI_le (by omega) (by omega))]
  | d + 1, m, hj, f + 1, hf, B, hB => by
    obtain ⟨B', k1, k2⟩ := LM_be182 (g := g) w d (m + 1) (by omega) f (by omega) _ (hB.next (by omega))
    refine ⟨B', ?_, k2⟩
    rw [← k1]
    have q := LM_be190 (g := g) w (show m < 30 by omega) (B := B) (K182 := LP3 f12_layBehind_b182_body f) 30 0 (by omega) FU (FU_big (by omega))
    have e0 : WS m 0 B = B := by
      funext i
      unfold WS
      rw [if_neg (by omega)]
    rw [e0] at q
    show f12_layBehind_b182_body _ _ _ _ = _
    generalize LP3 f12_layBehind_b182_body f = K at q ⊢
    unfold f12_layBehind_b182_body
    rw [lit_30, if_neg (nI_ge (by omega) (by omega))]
    exact q
theorem SM_layBehind {M : MM} {nw : NW} (h : CoM M P o nw) (ht : ToldOK M P o) (hcn : CnOK P o cn) : ∃ M' B g, f12_layBehind M 86 = some M' ∧ mI M' 106 = bR 900 B g ∧ WsJ (edB P o cn) 30 B ∧ HdM M' P o cn ∧ Sm [86, 95, 96, 97, 98, 106] [99] M M' ∧ (∀ j, j ≠ 30 → j ≠ 31 → mI M' 86 j = mI M 86 j) ∧ CoM M' P o nw ∧ ToldOK M' P o := by
  obtain ⟨M1, a1, a2, a3, a4, a5, a6⟩ := HdM_of h ht hcn
  have w1 := a5.w
  have hp := h.p
  have q1 := LM_be6 w1 (g := mI M1 106) 900 0 (by omega) FU (FU_big (by omega))
  have e0 : uI M1 106 (bR 0 (fun _ => false) (mI M1 106)) = M1 := uI_eq (by
    funext i
    unfold bR
    rw [if_neg (Nat.not_lt_zero i)])
  rw [e0] at q1
  have q2 := LM_be28 (g := mI M1 106) a2 hp (o_lt h.2.2.1) (pR P) 0 (by omega) FU (FU_big (by have := hp.2.2.1; omega))
  obtain ⟨B', k1, k2⟩ := LM_be182 (g := mI M1 106) w1 (ed := edB P o cn) 30 0 (by omega) FU (FU_big (by omega)) (eBj P o cn (pR P)) ⟨fun a b ha hb e => by
    unfold eBj
    rw [show (30 * a + b) / 30 = a by omega, show (30 * a + b) % 30 = b by omega]
    exact e, fun k a b hk => absurd hk (Nat.not_lt_zero k), fun R hR hed a b ha hb e => by
    refine hed a b ha hb ?_
    unfold eBj at e
    rw [show (30 * a + b) / 30 = a by omega, show (30 * a + b) % 30 = b by omega] at e
    exact e⟩
  refine ⟨uI M1 106 (bR 900 B' (mI M1 106)), B', mI M1 106, ?_, by rw [mI_uI, if_pos rfl], k2, a2.r 106 _ (by decide), (a3.more (by decide) (by decide)).uI _ (by decide), fun j z1 z2 => ?_, ?_, ?_⟩
  · unfold f12_layBehind
    rw [aO_86 h.w, a1, cV_some]
    have q2' : f12_layBehind_b28 (uI M1 106 (bR 900 (fun _ => false) (mI M1 106))) 86 0 = f12_layBehind_b182 (uI M1 106 (bR 900 (eBj P o cn (pR P)) (mI M1 106))) 86 0 := by
      rw [← q2]
      rfl
    exact q1.trans (q2'.trans k1)
  · rw [mI_uI, if_neg (by decide)]
    exact a4 j z1 z2
  · exact a5.sm (Is := [106]) (Js := []) ((Sm.rfl _ _ M1).uI _ (by decide)) (by rw [mI_uI, if_neg (by decide)]) (fun j _ _ => by rw [mI_uI, if_neg (by decide)]) a5.sz (by decide)
  · unfold ToldOK at *
    rw [mI_uI, if_neg (by decide)]
    exact a6
theorem LM_goesOn {M : MM} (w : Wl M) {B : Nat → Bool} {g : Nat → Int32} (hr : mI M 106 = bR 900 B g) {h : Nat} (hh : h < 30) : ∀ (d j : Nat), j + d = 30 → ∀ f, d < f → (∀ m, m < j → (B (30 * m + m) && (decide (m = h) || B (30 * h + m))) = false) → LP4 f12_goesOnAt_b10_body f M 86 (nI h) (nI j) = some (bI (gwB B h), M)
  | 0, j, hj, f + 1, _, hn => by
    have e : j = 30 := by omega
    show f12_goesOnAt_b10_body _ _ _ _ _ = _
    generalize LP4 f12_goesOnAt_b10_body f = K
    unfold f12_goesOnAt_b10_body gwB
    rw [lit_30, if_pos (nI_le (by omega) (by omega)), any_out (fun m hm => hn m (by omega))]
    rfl
  | d + 1, j, hj, f + 1, hf, hn => by
    have ih := LM_goesOn w hr hh d (j + 1) (by omega) f (by omega)
    show f12_goesOnAt_b10_body _ _ _ _ _ = _
    generalize LP4 f12_goesOnAt_b10_body f = K at ih ⊢
    have go : (B (30 * j + j) && (decide (j = h) || B (30 * h + j))) = false → K M 86 (nI h) (nI (j + 1)) = some (bI (gwB B h), M) := fun q => ih (fun m hm => by
      by_cases e : m = j
      · rw [e]
        exact q
      · exact hn m (by omega))
    have yes : (B (30 * j + j) && (decide (j = h) || B (30 * h + j))) = true → gwB B h = true := fun q => any_in (show j < 30 by omega) q
    unfold f12_goesOnAt_b10_body f12_goesOnAt_b56
    rw [lit_30, if_neg (nI_ge (by omega) (by omega)), aO_86 w, r_86_38 w, nI_mulN, nI_add, aA_106 w (by omega), nI_clamp (by omega), hr, bR_at (by omega), aO_86 w, nI_mulN, nI_add, aA_106 w (by omega), nI_clamp (by omega), bR_at (by omega), nI_1]
    simp only [bI_0, c_eq (show j < 2 ^ 31 by omega) (show h < 2 ^ 31 by omega)]
    by_cases c1 : B (30 * j + j) = false
    · rw [if_pos c1]
      exact go (by rw [c1, Bool.false_and])
    · rw [if_neg c1]
      rw [Bool.not_eq_false] at c1
      by_cases c2 : j = h
      · rw [if_pos c2, yes (by rw [c1, decide_eq_true c2]; rfl)]
        rfl
      · rw [if_neg c2]
        by_cases c3 : B (30 * h + j) = false
        · rw [if_pos c3]
          exact go (by rw [decide_eq_false c2, c3, Bool.or_false, Bool.and_false])
        · rw [if_neg c3]
          rw [Bool.not_eq_false] at c3
          rw [yes (by rw [c1, c3, Bool.or_true]; rfl)]
          rfl
theorem SM_goesOn {M : MM} (w : Wl M) {B : Nat → Bool} {g : Nat → Int32} (hr : mI M 106 = bR 900 B g) {p s : Nat} (hp : p < 5) (hs : s < 6) : f12_goesOnAt M 86 (nI p) (nI s) = some (bI (gwB B (6 * p + s)), M) := by
  unfold f12_goesOnAt f12_head
  rw [aO_86 w, cI_some, hd_e']
  exact LM_goesOn w hr (by omega) 30 0 (by omega) FU (FU_big (by omega)) (fun m hm => absurd hm (Nat.not_lt_zero m))
theorem ring_eq {l B : Nat → Bool} (a : LsA P o cn l) (b : WsJ (edB P o cn) 30 B) : ∀ h, h < 30 → l h = gwB B h := fun _ hh => last_ring b a.1 a.2 hh
/-! rises and lasts: the face -/
theorem S11_rises {M : MM} {nw : NW} (h : CoC M P o nw) (hc : CostC M P o) (hcn : CnOK P o cn) {c : Nat → Nat} (hcR : Rg c) (hf : ∀ M a1, HdC M a1 P o cn → f2_findRises M 48 = some (uI M 50 (nR 30 c (mI M 50)))) {p g : Nat} (hp : p < pS P) (hg : g < pG P) :
    ∃ M', f11_rises M 1 (nI p) (nI g) = some (if c (6 * p + g) = 31 then -1 else nI (c (6 * p + g)), M') ∧ SmH [1, 48, 50] [34, 36] M M' ∧ (∀ j, j ≠ 13 → mI M' 1 j = mI M 1 j) ∧ CoC M' P o nw ∧ CostC M' P o := by
  have w := h.w
  have p5 := h.p.1
  have g6 := h.p.2.1
  obtain ⟨b, b1, b2, b3⟩ := h.2.2.2.1
  obtain ⟨M1, a1, d1, d2, d3, d4, d5, d6⟩ := S11_settleH h hc hcn
  have w1 := d5.w
  obtain ⟨M2, hM2⟩ : ∃ M2, M2 = uI M1 50 (nR 30 c (mI M1 50)) := ⟨_, rfl⟩
  have s2 : Sm [50] [] M1 M2 := by rw [hM2]; exact (Sm.rfl _ _ M1).uI _ (by decide)
  have hd2 : HdC M2 a1 P o cn := d2.sm s2 (by decide) (by decide)
  have w2 := hd2.1
  refine ⟨M2, ?_, (d3.more (by decide) (by decide)).trans (s2.h.more (by decide) (by decide)), fun j hj => by rw [s2.i 1 (by decide)]; exact d4 j hj, d5.sm s2 (by rw [s2.i 1 (by decide)]) (by decide), d6.sm s2 (by rw [s2.i 1 (by decide)]) (by decide)⟩
  unfold f11_rises
  rw [aO_1 w, b1, b3.o w, S7_hasState w b3, cI_some, ibx_nI (by omega) (by omega), decide_eq_true hp, bI_t, if_neg (by decide), aO_1 w, b1, b3.o w, S7_hasSign w b3, cI_some, ibx_nI (by omega) (by omega), decide_eq_true hg, bI_t, if_neg (by decide), aO_1 w, d1, cV_some, aO_1 w1, r_1_8 w1, aO_48 w1, hf M1 a1 d2, cV_some, ← hM2, aO_1 w2, r_1_8 w2, aO_48 w2, S2_riseOf hd2 (c := c) (g := mI M1 50) (by rw [hM2, mI_uI, if_pos rfl]) hcR (by omega) (by omega), cI_some]
theorem SM_rises {M : MM} {nw : NW} (h : CoM M P o nw) (ht : ToldOK M P o) (hcn : CnOK P o cn) {c : Nat → Nat} (hcR : Rg c) (hf : ∀ M, HdM M P o cn → f12_layRise_b6 M 86 0 = some (uI M 105 (nR 30 (fun h => toM (c h)) (mI M 105)))) (x y : Int32) :
    ∃ M' r, f12_rises M 86 x y = some (r, M') ∧ Sm [86, 95, 96, 97, 98, 105] [99] M M' ∧ (∀ j, j ≠ 0 → j ≠ 30 → j ≠ 31 → mI M' 86 j = mI M 86 j) ∧ CoM M' P o nw ∧ ToldOK M' P o ∧ mI M' 86 0 = bI (!(ibx (pS P) x && ibx (pG P) y)) ∧ ∀ p g, p < pS P → g < pG P → x = nI p → y = nI g → r = if c (6 * p + g) = 31 then -1 else nI (c (6 * p + g)) := by
  have w := h.w
  have p5 := h.p.1
  have g6 := h.p.2.1
  unfold f12_rises
  rw [aO_86 w, SM_isHead h, cI_some]
  by_cases q : (ibx (pS P) x && ibx (pG P) y) = true
  · rw [Bool.and_eq_true] at q
    obtain ⟨p, hp, rfl⟩ := ibx_out q.1 (by omega)
    obtain ⟨g, hg, rfl⟩ := ibx_out q.2 (by omega)
    rw [q.1, q.2]
    obtain ⟨M1, gg, a1, a2, a3, a4, a5, a6, a7⟩ := SM_layRise (h.th (bI (!(true && true)))) (ht.th (bI (!(true && true)))) hcn hf
    have w1 := a6.w
    have w0 : Wl (sI M 86 0 (bI (!(true && true)))) := w
    have bc := hcR (6 * p + g) (by omega)
    refine ⟨M1, if c (6 * p + g) = 31 then -1 else nI (c (6 * p + g)), ?_, (th_sm.more (by decide) (by decide)).trans a4, fun j q0 q1 q2 => (a5 j q1 q2).trans (th_f q0), a6, a7, by rw [a5 0 (by decide) (by decide), mI_sI, if_pos ⟨rfl, rfl⟩], fun p' g' _ _ e1 e2 => ?_⟩
    · rw [show bI (true && true) = 1 from rfl, if_neg (by decide), aO_86 w0, a1, cV_some]
      unfold f12_head
      rw [aO_86 w1, aO_86 w1, cI_some, hd_e', r_86_37 w1, aA_105 w1 (by omega), nI_clamp (by omega), a2, nR_at (by omega), lit_1000, aO_86 w1, aO_86 w1, cI_some, aA_105 w1 (by omega), a2, nI_clamp (by omega), nR_at (by omega)]
      have tm := toM_le bc.2
      simp only [c_eq (show toM (c (6 * p + g)) < 2 ^ 31 by omega) (show 1000 < 2 ^ 31 by omega)]
      unfold toM
      by_cases z : c (6 * p + g) = 31
      · rw [if_pos z, if_pos rfl, if_pos z]
      · rw [if_neg z, if_neg (by omega), if_neg z]
    · rw [nI_eq (by omega) (by omega)] at e1 e2
      rw [e1, e2]
  · rw [Bool.not_eq_true] at q
    rw [q, bI_f, if_pos rfl]
    refine ⟨_, 0, rfl, th_sm.more (by decide) (by decide), fun j q0 _ _ => th_f q0, h.th _, ht.th _, by rw [mI_sI, if_pos ⟨rfl, rfl⟩], fun p g hp hg e1 e2 => ?_⟩
    rw [e1, e2, ibx_nI (by omega) (by omega), ibx_nI (by omega) (by omega), decide_eq_true hp, decide_eq_true hg] at q
    cases q
theorem S11_lasts {M : MM} {nw : NW} (h : CoC M P o nw) (hc : CostC M P o) (hcn : CnOK P o cn) {p g : Nat} (hp : p < pS P) (hg : g < pG P) :
    ∃ M' l, f11_lasts M 1 (nI p) (nI g) = some (bI (l (6 * p + g)), M') ∧ LsA P o cn l ∧ SmH [1, 48, 52] [34, 36] M M' ∧ (∀ j, j ≠ 13 → mI M' 1 j = mI M 1 j) ∧ CoC M' P o nw ∧ CostC M' P o := by
  have w := h.w
  have p5 := h.p.1
  have g6 := h.p.2.1
  obtain ⟨b, b1, b2, b3⟩ := h.2.2.2.1
  obtain ⟨M1, a1, d1, d2, d3, d4, d5, d6⟩ := S11_settleH h hc hcn
  have w1 := d5.w
  obtain ⟨l, k1, k2⟩ := S2_findLasting d2 h.p (o_lt h.lo)
  obtain ⟨M2, hM2⟩ : ∃ M2, M2 = uI M1 52 (bR 30 l (mI M1 52)) := ⟨_, rfl⟩
  have s2 : Sm [52] [] M1 M2 := by rw [hM2]; exact (Sm.rfl _ _ M1).uI _ (by decide)
  have hd2 : HdC M2 a1 P o cn := d2.sm s2 (by decide) (by decide)
  have w2 := hd2.1
  refine ⟨M2, l, ?_, k2, (d3.more (by decide) (by decide)).trans (s2.h.more (by decide) (by decide)), fun j hj => by rw [s2.i 1 (by decide)]; exact d4 j hj, d5.sm s2 (by rw [s2.i 1 (by decide)]) (by decide), d6.sm s2 (by rw [s2.i 1 (by decide)]) (by decide)⟩
  unfold f11_lasts
  rw [aO_1 w, b1, b3.o w, S7_hasState w b3, cI_some, ibx_nI (by omega) (by omega), decide_eq_true hp, bI_t, if_neg (by decide), aO_1 w, b1, b3.o w, S7_hasSign w b3, cI_some, ibx_nI (by omega) (by omega), decide_eq_true hg, bI_t, if_neg (by decide), aO_1 w, d1, cV_some, aO_1 w1, r_1_8 w1, aO_48 w1, k1, cV_some, ← hM2, aO_1 w2, r_1_8 w2, aO_48 w2, S2_isLasting hd2 (l := l) (g := mI M1 52) (by rw [hM2, mI_uI, if_pos rfl]) (by omega) (by omega), cI_some]
  cases l (6 * p + g) <;> rfl
theorem SM_lasts {M : MM} {nw : NW} (h : CoM M P o nw) (ht : ToldOK M P o) (hcn : CnOK P o cn) (x y : Int32) :
    ∃ M' r, f12_lasts M 86 x y = some (r, M') ∧ Sm [86, 95, 96, 97, 98, 106] [99] M M' ∧ (∀ j, j ≠ 0 → j ≠ 30 → j ≠ 31 → mI M' 86 j = mI M 86 j) ∧ CoM M' P o nw ∧ ToldOK M' P o ∧ mI M' 86 0 = bI (!(ibx (pS P) x && ibx (pG P) y)) ∧ ∀ p g l, p < pS P → g < pG P → x = nI p → y = nI g → LsA P o cn l → r = bI (l (6 * p + g)) := by
  have w := h.w
  have p5 := h.p.1
  have g6 := h.p.2.1
  unfold f12_lasts
  rw [aO_86 w, SM_isHead h, cI_some]
  by_cases q : (ibx (pS P) x && ibx (pG P) y) = true
  · rw [Bool.and_eq_true] at q
    obtain ⟨p, hp, rfl⟩ := ibx_out q.1 (by omega)
    obtain ⟨g, hg, rfl⟩ := ibx_out q.2 (by omega)
    rw [q.1, q.2]
    obtain ⟨M1, B, gg, a1, a2, a3, a4, a5, a6, a7, a8⟩ := SM_layBehind (h.th (bI (!(true && true)))) (ht.th (bI (!(true && true)))) hcn
    have w1 := a7.w
    have w0 : Wl (sI M 86 0 (bI (!(true && true)))) := w
    refine ⟨M1, bI (gwB B (6 * p + g)), ?_, (th_sm.more (by decide) (by decide)).trans a5, fun j q0 q1 q2 => (a6 j q1 q2).trans (th_f q0), a7, a8, by rw [a6 0 (by decide) (by decide), mI_sI, if_pos ⟨rfl, rfl⟩], fun p' g' l _ _ e1 e2 hl => ?_⟩
    · rw [show bI (true && true) = 1 from rfl, if_neg (by decide), aO_86 w0, a1, cV_some, aO_86 w1, SM_goesOn w1 a2 (by omega) (by omega), cI_some]
      cases gwB B (6 * p + g) <;> rfl
    · rw [nI_eq (by omega) (by omega)] at e1 e2
      rw [← e1, ← e2, ring_eq hl a3 _ (by omega)]
  · rw [Bool.not_eq_true] at q
    rw [q, bI_f, if_pos rfl]
    refine ⟨_, 0, rfl, th_sm.more (by decide) (by decide), fun j q0 _ _ => th_f q0, h.th _, ht.th _, by rw [mI_sI, if_pos ⟨rfl, rfl⟩], fun p g l hp hg e1 e2 _ => ?_⟩
    rw [e1, e2, ibx_nI (by omega) (by omega), ibx_nI (by omega) (by omega), decide_eq_true hp, decide_eq_true hg] at q
    cases q
end RING
