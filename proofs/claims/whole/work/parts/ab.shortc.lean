/-! MACHINES: shortest at the class -/
section SHORTC
variable {P : PG} {o : Nat} {E R : Nat → Nat} {nw : NW}
theorem S5_parentOf {M : MM} {ar : Nat → Nat} {d : Nat} (ly : LY M ar d) {k a g : Nat} (hk : k < RMs d) (ha : a < 2 ^ 20) (hg : g < 6) (h : mI M (ar 80) k = nI (6 * a + g)) : f5_parentOf M 61 (nI k) = some (nI a, M) := by
  have w := ly.1.w
  have l80 : k < ln d 80 := hk
  unfold f5_parentOf
  rw [aO_61 w, r_61_9 w, ly.oI (by decide), ly.get (by decide) l80, cI_some, gd_e (by decide), h, lit_6, nI_div (by omega) (by omega) (by omega)]
  rw [show (6 * a + g) / 6 = a by omega]
/-- the way that the parents tell -/
def PW (M : MM) (ar : Nat → Nat) (G : Nat) (nb : Nat → Nat → Nat) (d : Nat) (W T : Nat → Nat) : Prop := TP G nb d W T ∧ (∀ s, s < d → mI M (ar 80) (T (s + 1)) = nI (6 * T s + W s)) ∧ ∀ s, s ≤ d → s ≤ T s
theorem PW_ex {M : MM} {ar : Nat → Nat} {G q c : Nat} {v : Nat → Nat} (h : PA M ar G q c v) (hc : ∀ k g, k < q → g < G → G * k + g < c) : ∀ (b j : Nat), j < b → j < q → ∃ d W T, PW M ar G (fun k g => v (G * k + g)) d W T ∧ T d = j
  | 0, j, hb, _ => absurd hb (Nat.not_lt_zero _)
  | b + 1, j, hb, hj => by
    by_cases j0 : j = 0
    · exact ⟨0, fun _ => 0, fun _ => 0, ⟨⟨rfl, fun s hs => absurd hs (Nat.not_lt_zero _)⟩, fun s hs => absurd hs (Nat.not_lt_zero _), fun s hs => hs⟩, j0.symm⟩
    · obtain ⟨k, g, h1, h2, h3, h4, h5, h6⟩ := h j (by omega) hj
      obtain ⟨d, W, T, ⟨⟨t0, tp⟩, pr, ge⟩, td⟩ := PW_ex h hc b k (by omega) (by omega)
      have wn : ∀ s, s < d → upx W d g s = W s := fun s hs => by rw [upx_e, if_neg (by omega)]
      have tn : ∀ s, s ≤ d → upx T (d + 1) j s = T s := fun s hs => by rw [upx_e, if_neg (by omega)]
      have we : upx W d g d = g := by rw [upx_e, if_pos rfl]
      have te : upx T (d + 1) j (d + 1) = j := by rw [upx_e, if_pos rfl]
      refine ⟨d + 1, upx W d g, upx T (d + 1) j, ⟨⟨by rw [tn 0 (Nat.zero_le _)]; exact t0, fun s hs => ?_⟩, fun s hs => ?_, fun s hs => ?_⟩, te⟩
      · by_cases e : s = d
        · rw [e, we, te, tn d (Nat.le_refl _), td]
          exact ⟨h1, h5.symm, h2, fun a g' hg' hlt => by
            have := mvN_ge v (G * k + g) (G * a + g') hlt
            show v (G * a + g') < j
            omega⟩
        · rw [wn s (by omega), tn s (by omega), tn (s + 1) (by omega)]
          exact tp s (by omega)
      · by_cases e : s = d
        · rw [e, we, te, tn d (Nat.le_refl _), td]
          exact h4
        · rw [wn s (by omega), tn s (by omega), tn (s + 1) (by omega)]
          exact pr s (by omega)
      · by_cases e : s = d + 1
        · rw [e, te]
          have := ge d (Nat.le_refl _)
          omega
        · rw [tn s (by omega)]
          exact ge s (by omega)
theorem PW.pos {M : MM} {ar : Nat → Nat} {G d : Nat} {nb : Nat → Nat → Nat} {W T : Nat → Nat} (h : PW M ar G nb d W T) {s : Nat} (hs : s < d) : 0 < T (s + 1) := by
  have := (h.1.2 s hs).2.2.1
  omega
theorem L5_dp4 {M : MM} {ar : Nat → Nat} {d' : Nat} (ly : LY M ar d') {q : Nat} (hq : mI M 61 17 = nI q) (q2 : q ≤ 2340) (hr : q ≤ RMs d') {G d : Nat} {nb : Nat → Nat → Nat} {W T : Nat → Nat} (h : PW M ar G nb d W T) (hG : G ≤ 6) (hT : T d < q) : ∀ (s : Nat), s ≤ d → ∀ fu, s < fu → LP4 f5_depthOf_b4_body fu M 61 (nI (d - s)) (nI (T s)) = some (nI d, M)
  | 0, _, fu + 1, _ => by
    rw [h.1.1, LP4_s, Nat.sub_zero]
    generalize LP4 f5_depthOf_b4_body fu = K1
    unfold f5_depthOf_b4_body
    rw [if_pos (show nI 0 ≤ 0 by decide)]
  | s + 1, hs, fu + 1, hf => by
    have w := ly.1.w
    have pos := h.pos (show s < d by omega)
    have le := h.1.inc (s + 1) d hs (Nat.le_refl _)
    have ge := h.2.2 d (Nat.le_refl _)
    obtain ⟨w1, w2, w3, -⟩ := h.1.2 s (by omega)
    have ih := L5_dp4 ly hq q2 hr h hG hT s (by omega) fu (by omega)
    rw [← ih, LP4_s]
    generalize LP4 f5_depthOf_b4_body fu = K1
    unfold f5_depthOf_b4_body
    rw [if_neg (show ¬ nI (T (s + 1)) ≤ 0 by rw [show (0 : Int32) = nI 0 from rfl]; exact nI_ge pos (by omega)), aO_61 w, hq, if_neg (nI_ge (by omega) (by omega)), aO_61 w, S5_parentOf ly (k := T (s + 1)) (a := T s) (g := W s) (by omega) (by omega) (by omega) (h.2.1 s (by omega)), cI_some, nI_1, show d - (s + 1) + 1 = d - s by omega]
theorem L5_sw5 {M : MM} {ar : Nat → Nat} {d' : Nat} (ly : LY M ar d') {q : Nat} (q2 : q ≤ 2340) (hr : q ≤ RMs d') {G d : Nat} {nb : Nat → Nat → Nat} {W T : Nat → Nat} (h : PW M ar G nb d W T) (hG : G ≤ 6) (hT : T d < q) {i : Nat} (hi : i < d) : ∀ (e a : Nat), a + e = d - 1 - i → ∀ fu, e < fu → LP5 f5_signOnTheWay_b5_body fu M 61 (nI (d - 1 - i)) (nI (T (d - a))) (nI a) = some (nI (W i), M)
  | 0, a, ha, fu + 1, _ => by
    have w := ly.1.w
    have pos := h.pos hi
    have le := h.1.inc (i + 1) d (by omega) (Nat.le_refl _)
    obtain ⟨w1, w2, w3, -⟩ := h.1.2 i hi
    have ge := h.2.2 d (Nat.le_refl _)
    have e : d - a = i + 1 := by omega
    have l80 : T (i + 1) < ln d' 80 := Nat.lt_of_lt_of_le (show T (i + 1) < q by omega) hr
    rw [e, LP5_s]
    generalize LP5 f5_signOnTheWay_b5_body fu = K1
    unfold f5_signOnTheWay_b5_body
    rw [if_pos (nI_le (by omega) (by omega)), if_neg (show ¬ nI (T (i + 1)) ≤ 0 by rw [show (0 : Int32) = nI 0 from rfl]; exact nI_ge pos (by omega)), aO_61 w, r_61_9 w, ly.oI (by decide), ly.get (by decide) l80, cI_some, gd_e (by decide), h.2.1 i hi, lit_6, nI_mod (by omega) (by omega) (by omega), show (6 * T i + W i) % 6 = W i by omega]
  | e + 1, a, ha, fu + 1, hf => by
    have w := ly.1.w
    have ge := h.2.2 d (Nat.le_refl _)
    have ea : d - a = d - (a + 1) + 1 := by omega
    have le := h.1.inc (d - (a + 1) + 1) d (by omega) (Nat.le_refl _)
    obtain ⟨w1, w2, w3, -⟩ := h.1.2 (d - (a + 1)) (by omega)
    have ih := L5_sw5 ly q2 hr h hG hT hi e (a + 1) (by omega) fu (by omega)
    rw [← ih, LP5_s]
    generalize LP5 f5_signOnTheWay_b5_body fu = K1
    unfold f5_signOnTheWay_b5_body
    rw [if_neg (nI_ge (by omega) (by omega)), aO_61 w, ea, S5_parentOf ly (a := T (d - (a + 1))) (g := W (d - (a + 1))) (by omega) (by omega) (by omega) (h.2.1 _ (by omega)), cI_some, nI_1]
theorem L5_fg2 {M : MM} {ar : Nat → Nat} {d p n : Nat} {S : Nat → Nat} {t : Nat → Nat → Nat} {K os : Nat → Nat} {q : Nat} {v : Nat → Nat} (nd : NdC M ar d P o p E R n S t K os q v) : ∀ (e k : Nat), k + e = q → ∀ fu, e < fu → (∀ k', k' < k → avS 15 (mC E) (endS (gTG P)) (S (os k')) [] = false) → (LP3 f5_firstGoodNode_b2_body fu M 61 (nI k) = some (-1, M) ∧ ∀ k', k' < q → avS 15 (mC E) (endS (gTG P)) (S (os k')) [] = false) ∨ ∃ k0, k0 < q ∧ LP3 f5_firstGoodNode_b2_body fu M 61 (nI k) = some (nI k0, M) ∧ avS 15 (mC E) (endS (gTG P)) (S (os k0)) [] = true ∧ ∀ k', k' < k0 → avS 15 (mC E) (endS (gTG P)) (S (os k')) [] = false
  | 0, k, hk, fu + 1, _, h => by
    obtain ⟨qn, q0, le⟩ := nd.row
    have w := nd.1.2.1.1.1.w
    have e : k = q := by omega
    rw [e] at h ⊢
    refine .inl ⟨?_, h⟩
    rw [LP3_s]
    generalize LP3 f5_firstGoodNode_b2_body fu = K1
    unfold f5_firstGoodNode_b2_body
    rw [aO_61 w, nd.2.2.1.1, if_pos (nI_le (Nat.le_refl _) (by omega))]
  | e + 1, k, hk, fu + 1, hf, h => by
    obtain ⟨qn, q0, le⟩ := nd.row
    have w := nd.1.2.1.1.1.w
    have st : LP3 f5_firstGoodNode_b2_body (fu + 1) M 61 (nI k) = if avS 15 (mC E) (endS (gTG P)) (S (os k)) [] = true then some (nI k, M) else LP3 f5_firstGoodNode_b2_body fu M 61 (nI (k + 1)) := by
      rw [LP3_s]
      generalize LP3 f5_firstGoodNode_b2_body fu = K1
      unfold f5_firstGoodNode_b2_body
      rw [aO_61 w, nd.2.2.1.1, if_neg (nI_ge (by omega) (by omega)), aO_61 w, S5_isGoodNode nd (by omega), cI_some]
      cases c : avS 15 (mC E) (endS (gTG P)) (S (os k)) [] with
      | true => rw [if_neg (show ¬ bI true = 0 by decide), if_pos rfl]
      | false => rw [if_pos (show bI false = 0 from rfl), if_neg (by decide), nI_1]
    rw [st]
    by_cases c : avS 15 (mC E) (endS (gTG P)) (S (os k)) [] = true
    · rw [if_pos c]
      exact .inr ⟨k, by omega, rfl, c, h⟩
    · rw [if_neg c]
      rw [Bool.not_eq_true] at c
      exact L5_fg2 nd e (k + 1) (by omega) fu (by omega) (fun k' hk' => by
        by_cases e : k' = k
        · rw [e]
          exact c
        · exact h k' (by omega))
theorem rdB_gd {G q : Nat} {nb : Nat → Nat → Nat} {gd : Nat → Bool} (hnb : ∀ k g, k < q → g < G → nb k g < q) : ∀ i k, k < q → rdB G nb gd i k = true → ∃ k', k' < q ∧ gd k' = true
  | 0, k, hk, h => ⟨k, hk, h⟩
  | i + 1, k, hk, h => by
    obtain ⟨g, hg, h'⟩ := any_iff.mp h
    exact rdB_gd hnb i _ (hnb k g hk hg) h'
theorem S11_shortest {M : MM} {ar : Nat → Nat} {d : Nat} (h : CoC M P o nw) (hc : CostC M P o) (hm : MacC M P o ar d) (x y : Int32) : ∃ M' r, f11_shortest M 1 x y = some (r, M') ∧ McR M d P o nw M' ∧ (ibx (pS P) x = false → r = -1) ∧ ∀ p, p < pS P → x = nI p → ∃ q nb L gd, NmA P o p q nb L ∧ (∀ k, k < q → gd k = L k []) ∧ 0 < q ∧ shA (pG P) nb gd y r := by
  have w := h.1
  have hp := h.2.1
  have p5 := hp.1
  have g6 := hp.2.1
  obtain ⟨a1, e1, e3⟩ := h.pr
  unfold f11_shortest
  rw [aO_1 w, e1, e3.oP w, S7_hasState w e3, cI_some]
  by_cases c : ibx (pS P) x = true
  · obtain ⟨p, hp0, rfl⟩ := ibx_out c (by omega)
    obtain ⟨M1, ar', d', E, R, n, S, t, K, os, q, v, b1, b2, b3, b4, b5, b6⟩ := S11_settleMachine h hc hm hp0
    have w1 := b3.1
    obtain ⟨qn, q0, le⟩ := b6.row
    have nm := b6.nm hp (okT_g hp) hp0
    have hr := b6.1.2.1.2.2.1
    have ltv := b6.ltv hp
    rw [c, bI_t, if_neg (by decide), aO_1 w, b1, cV_some, aO_1 w1, r_1_9 w1, aO_61 w1]
    have mc : McR M d P o nw M1 := ⟨ar', d', b2, b3, b4, b5⟩
    have fin : ∀ (r : Int32), shA (pG P) (fun k g => v (pG P * k + g)) (fun k => avS 15 (mC E) (endS (gTG P)) (S (os k)) []) y r → ∀ X, X = some (r, M1) → ∃ M' r, X = some (r, M') ∧ McR M d P o nw M' ∧ (true = false → r = -1) ∧ ∀ p', p' < pS P → nI p = nI p' → ∃ q nb L gd, NmA P o p' q nb L ∧ (∀ k, k < q → gd k = L k []) ∧ 0 < q ∧ shA (pG P) nb gd y r := fun r hs X hX => ⟨M1, r, hX, mc, (fun z => by cases z), fun p' hp' e => by
      rw [nI_eq (by omega) (by omega)] at e
      rw [← e]
      exact ⟨q, _, _, _, nm, fun _ _ => rfl, q0, hs⟩⟩
    rcases L5_fg2 b6 q 0 (by omega) FU (FU_big (by omega)) (fun k' hk' => absurd hk' (Nat.not_lt_zero _)) with ⟨f1, f2⟩ | ⟨k0, f0, f1, f2, f3⟩
    · have f1' : f5_firstGoodNode M1 61 = some (-1, M1) := f1
      rw [f1', cI_some, if_pos rfl]
      refine fin (-1) ⟨fun _ => rfl, fun D hD => ?_⟩ _ rfl
      obtain ⟨k', z1, z2⟩ := rdB_gd ltv D 0 q0 hD.1
      rw [f2 k' z1] at z2
      cases z2
    · have f1' : f5_firstGoodNode M1 61 = some (nI k0, M1) := f1
      obtain ⟨D, W, T, pw, td⟩ := PW_ex b6.2.2.2.2.2.2 (fun k g hk hg => by
        have : pG P * k + pG P ≤ pG P * q := by
          rw [← Nat.mul_succ]
          exact Nat.mul_le_mul_left _ hk
        omega) (k0 + 1) k0 (by omega) f0
      obtain ⟨ls, N, gr⟩ := tree_sh pw.1 (gd := fun k => avS 15 (mC E) (endS (gTG P)) (S (os k)) []) (by rw [td]; exact f2) (by rw [td]; exact f3)
      have ge := pw.2.2 D (Nat.le_refl _)
      have dp := L5_dp4 b5.1 b6.2.2.1.1 (by omega) (by omega) pw g6 (by rw [td]; exact f0) D (Nat.le_refl _) FU (FU_big (by omega))
      rw [Nat.sub_self, td] at dp
      have dp' : f5_depthOf M1 61 (nI k0) = some (nI D, M1) := dp
      have w9 := w1
      rw [f1', cI_some, if_neg (nI_neM (by omega)), aO_1 w1, r_1_9 w1, aO_61 w1, dp', cI_some]
      have no : (∀ i, rdB (pG P) (fun k g => v (pG P * k + g)) (fun k => avS 15 (mC E) (endS (gTG P)) (S (os k)) []) i 0 = false) → ∀ r : Int32, r = -1 := fun z => by
        have := ls.1
        rw [z D] at this
        cases this
      by_cases y1 : y = -1
      · rw [if_pos y1]
        exact fin (nI D) ⟨fun z => no z _, fun D' hD' => by
          have e := lst_uniq hD' ls
          rw [e]
          exact ⟨fun _ => rfl, fun i hi ey => by rw [y1] at ey; exact absurd ey (nI_neM' (by omega)), fun z => absurd y1 z⟩⟩ _ rfl
      · rw [if_neg y1]
        by_cases y2 : y < 0
        · rw [if_pos y2]
          exact fin (-1) ⟨fun z => no z _, fun D' hD' => by
            have e := lst_uniq hD' ls
            rw [e]
            exact ⟨fun z => absurd z y1, fun i hi ey => by rw [ey] at y2; exact absurd y2 (nI_pos (by omega)), fun _ _ => rfl⟩⟩ _ rfl
        · obtain ⟨i, hi, rfl⟩ := nI_of y2
          rw [if_neg y2]
          by_cases c5 : D ≤ i
          · rw [if_pos (nI_le c5 hi)]
            exact fin (-1) ⟨fun z => no z _, fun D' hD' => by
              have e := lst_uniq hD' ls
              rw [e]
              exact ⟨fun z => absurd z y1, fun i' hi' ey => by
                rw [nI_eq hi (by omega)] at ey
                omega, fun _ _ => rfl⟩⟩ _ rfl
          · have sw := L5_sw5 b5.1 (q := q) (by omega) (by omega) pw g6 (by rw [td]; exact f0) (i := i) (by omega) (D - 1 - i) 0 (by omega) FU (FU_big (by omega))
            rw [Nat.sub_zero, td] at sw
            have sw' : f5_signOnTheWay M1 61 (nI k0) (nI (D - 1 - i)) = some (nI (W i), M1) := sw
            rw [if_neg (nI_ge (by omega) (by omega)), aO_1 w1, r_1_9 w1, aO_61 w1, nI_sub1 (by omega), nI_subN (by omega), sw', cI_some]
            exact fin (nI (W i)) ⟨fun z => no z _, fun D' hD' => by
              have e := lst_uniq hD' ls
              rw [e]
              exact ⟨fun z => absurd z y1, fun i' hi' ey => by
                rw [nI_eq hi (by omega)] at ey
                rw [← ey]
                exact ⟨W, N, gr, rfl⟩, fun _ z => absurd rfl (z i (by omega))⟩⟩ _ rfl
  · rw [Bool.not_eq_true] at c
    rw [c, bI_f, if_pos rfl]
    refine ⟨M, -1, rfl, McR.same h hc hm, fun _ => rfl, fun p' hp' e => ?_⟩
    rw [e, ibx_nI (by omega) (by omega), decide_eq_true hp'] at c
    cases c
end SHORTC
