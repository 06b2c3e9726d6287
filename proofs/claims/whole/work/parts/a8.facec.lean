/-! MACHINES: machine, next, good, same at the class -/
section FACEC
variable {P : PG} {o : Nat} {E R : Nat → Nat} {nw : NW}
def McR (M : MM) (d : Nat) (P : PG) (o : Nat) (nw : NW) (M' : MM) : Prop := ∃ ar' d', FrM M d M' d' ∧ CoC M' P o nw ∧ CostC M' P o ∧ MacC M' P o ar' d'
theorem FrM.rfl (M : MM) (d : Nat) : FrM M d M d := ⟨SmX.rfl _ _ _, fun _ _ _ => Eq.refl _, Nat.le_refl _, Eq.refl _, Eq.refl _⟩
theorem McR.same {M : MM} {ar : Nat → Nat} {d : Nat} (h : CoC M P o nw) (hc : CostC M P o) (hm : MacC M P o ar d) : McR M d P o nw M := ⟨ar, d, FrM.rfl _ _, h, hc, hm⟩
theorem CoC.pr {M : MM} (h : CoC M P o nw) : ∃ a1, mR M 1 10 = a1 ∧ PgC M a1 P := by
  obtain ⟨a1, e1, e2, e3⟩ := h.2.2.2.1
  exact ⟨a1, e1, e3⟩
theorem S5_hasNode {M : MM} (w : Wl M) {q : Nat} (h : mI M 61 17 = nI q) (y : Int32) : f5_hasNode M 61 y = some (bI (ibx q y), M) := by
  unfold f5_hasNode ibx
  rw [aO_61 w, h]
  by_cases h1 : y < 0
  · simp [h1, bI]
  · by_cases h2 : nI q ≤ y <;> simp [h1, h2, bI]
theorem NdC.row {M : MM} {ar : Nat → Nat} {d p n : Nat} {S : Nat → Nat} {t : Nat → Nat → Nat} {K os : Nat → Nat} {q : Nat} {v : Nat → Nat} (h : NdC M ar d P o p E R n S t K os q v) : q ≤ n ∧ 0 < q ∧ n ≤ 2340 := ⟨h.2.2.1.le h.1.2.2.2.1, by have := h.2.2.2.2.1.2; omega, h.1.2.1.2.2.2.1⟩
theorem S5_nodeBehind {M : MM} {ar : Nat → Nat} {d p n : Nat} {S : Nat → Nat} {t : Nat → Nat → Nat} {K os : Nat → Nat} {q : Nat} {v : Nat → Nat} (hp : WP P) (h : NdC M ar d P o p E R n S t K os q v) {k g : Nat} (hk : k < q) (hg : g < pG P) : f5_nodeBehind M 61 (nI k) (nI g) = some (nI (v (pG P * k + g)), M) ∧ v (pG P * k + g) < q := by
  obtain ⟨qn, q0, le⟩ := h.row
  obtain ⟨⟨hE, tc, pk, ok, -⟩, -, ⟨n1, n2, n3, n4⟩, b1, ⟨b2, b3⟩, b4, -⟩ := h
  have ly := tc.1
  have w := ly.1.w
  have hr := tc.2.2.1
  obtain ⟨o1, o2⟩ := n2 k hk
  obtain ⟨t1, t2, -⟩ := tc.2.2.2.2.2.1 (os k) g o2 hg
  have kt := ok _ t2
  have hG : 0 < pG P := by omega
  have lt : pG P * k + g < pG P * q := by
    have : pG P * k + pG P ≤ pG P * q := by
      rw [← Nat.mul_succ]
      exact Nat.mul_le_mul_left _ hk
    omega
  obtain ⟨d1, d2, d3⟩ := b2 _ lt
  rw [show (pG P * k + g) / pG P = k by rw [Nat.mul_add_div hG, Nat.div_eq_of_lt hg, Nat.add_zero], show (pG P * k + g) % pG P = g by rw [Nat.mul_add_mod, Nat.mod_eq_of_lt hg]] at d2
  have val : mI M (ar 76) (K (t (os k) g)) = nI (v (pG P * k + g)) := by
    rcases n4 _ kt with ⟨z1, z2⟩ | ⟨x, z1, z2, z3⟩
    · exact absurd d2 (z2 _ d1)
    · rw [z2, n3 x _ z1 d1 (z3.trans d2.symm)]
  refine ⟨?_, d1⟩
  have l78 : k < ln d 78 := Nat.lt_of_lt_of_le (show k < n by omega) hr
  have l76 : K (t (os k) g) < ln d 76 := Nat.lt_of_lt_of_le kt hr
  unfold f5_nodeBehind
  rw [aO_61 w, aO_61 w, r_61_8 w, ly.oI (by decide), ly.get (by decide) l78, cI_some, o1, aO_61 w, S5_kindBehind hp tc pk o2 hg, cI_some, r_61_7 w, ly.oI (by decide), ly.get (by decide) l76, cI_some, val]
theorem S5_isGoodNode {M : MM} {ar : Nat → Nat} {d p n : Nat} {S : Nat → Nat} {t : Nat → Nat → Nat} {K os : Nat → Nat} {q : Nat} {v : Nat → Nat} (h : NdC M ar d P o p E R n S t K os q v) {k : Nat} (hk : k < q) : f5_isGoodNode M 61 (nI k) = some (bI (avS 15 (mC E) (endS (gTG P)) (S (os k)) []), M) := by
  obtain ⟨qn, q0, le⟩ := h.row
  obtain ⟨⟨hE, tc, pk, ok, -⟩, -, ⟨n1, n2, n3, n4⟩, -⟩ := h
  have ly := tc.1
  have w := ly.1.w
  have hr := tc.2.2.1
  obtain ⟨o1, o2⟩ := n2 k hk
  have l78 : k < ln d 78 := Nat.lt_of_lt_of_le (show k < n by omega) hr
  unfold f5_isGoodNode
  rw [aO_61 w, r_61_8 w, ly.oI (by decide), ly.get (by decide) l78, cI_some, o1, aO_61 w, S5_isGoodSet tc o2, cI_some, gd_e (by cases avS 15 (mC E) (endS (gTG P)) (S (os k)) [] <;> decide)]
theorem S11_machine {M : MM} {ar : Nat → Nat} {d : Nat} (h : CoC M P o nw) (hc : CostC M P o) (hm : MacC M P o ar d) (x : Int32) : ∃ M' r, f11_machine M 1 x = some (r, M') ∧ McR M d P o nw M' ∧ (ibx (pS P) x = false → r = -1) ∧ ∀ p, p < pS P → x = nI p → ∃ q nb L, NmA P o p q nb L ∧ r = nI q := by
  have w := h.1
  have hp := h.2.1
  have p5 := hp.1
  obtain ⟨a1, e1, e3⟩ := h.pr
  unfold f11_machine
  rw [aO_1 w, e1, e3.oP w, S7_hasState w e3, cI_some]
  by_cases c : ibx (pS P) x = true
  · obtain ⟨p, hp0, rfl⟩ := ibx_out c (by omega)
    obtain ⟨M1, ar', d', E, R, n, S, t, K, os, q, v, b1, b2, b3, b4, b5, b6⟩ := S11_settleMachine h hc hm hp0
    have w1 := b3.1
    rw [c, bI_t, if_neg (by decide), aO_1 w, b1, cV_some, aO_1 w1, r_1_9 w1, aO_61 w1, b6.2.2.1.1]
    refine ⟨M1, _, rfl, ⟨ar', d', b2, b3, b4, b5⟩, (fun z => by cases z), fun p' hp' e => ?_⟩
    rw [nI_eq (by omega) (by omega)] at e
    rw [← e]
    exact ⟨q, _, _, b6.nm hp (okT_g hp) hp0, rfl⟩
  · rw [Bool.not_eq_true] at c
    rw [c, bI_f, if_pos rfl]
    refine ⟨M, -1, rfl, McR.same h hc hm, fun _ => rfl, fun p hp0 e => ?_⟩
    rw [e, ibx_nI (by omega) (by omega), decide_eq_true hp0] at c
    cases c
theorem S11_next {M : MM} {ar : Nat → Nat} {d : Nat} (h : CoC M P o nw) (hc : CostC M P o) (hm : MacC M P o ar d) (x y z : Int32) : ∃ M' r, f11_next M 1 x y z = some (r, M') ∧ McR M d P o nw M' ∧ ((ibx (pS P) x && ibx (pG P) z) = false → r = -1) ∧ ∀ p g, p < pS P → g < pG P → x = nI p → z = nI g → ∃ q nb L, NmA P o p q nb L ∧ (ibx q y = false → r = -1) ∧ ∀ k, k < q → y = nI k → r = nI (nb k g) := by
  have w := h.1
  have hp := h.2.1
  have p5 := hp.1
  have g6 := hp.2.1
  obtain ⟨a1, e1, e3⟩ := h.pr
  unfold f11_next
  rw [aO_1 w, e1, e3.oP w, S7_hasState w e3, cI_some]
  by_cases c : ibx (pS P) x = true
  · obtain ⟨p, hp0, rfl⟩ := ibx_out c (by omega)
    rw [c, bI_t, if_neg (by decide), aO_1 w, e1, e3.oP w, S7_hasSign w e3, cI_some, Bool.true_and]
    by_cases c2 : ibx (pG P) z = true
    · obtain ⟨g, hg0, rfl⟩ := ibx_out c2 (by omega)
      obtain ⟨M1, ar', d', E, R, n, S, t, K, os, q, v, b1, b2, b3, b4, b5, b6⟩ := S11_settleMachine h hc hm hp0
      have w1 := b3.1
      obtain ⟨qn, q0, le⟩ := b6.row
      have nm := b6.nm hp (okT_g hp) hp0
      rw [c2, bI_t, if_neg (by decide), aO_1 w, b1, cV_some, aO_1 w1, r_1_9 w1, aO_61 w1, S5_hasNode w1 b6.2.2.1.1, cI_some]
      by_cases c3 : ibx q y = true
      · obtain ⟨k, hk0, rfl⟩ := ibx_out c3 (by omega)
        rw [c3, bI_t, if_neg (by decide), aO_1 w1, r_1_9 w1, aO_61 w1, (S5_nodeBehind hp b6 hk0 hg0).1, cI_some]
        refine ⟨M1, _, rfl, ⟨ar', d', b2, b3, b4, b5⟩, (fun z => by cases z), fun p' g' hp' hg' e e' => ?_⟩
        rw [nI_eq (by omega) (by omega)] at e e'
        rw [← e, ← e']
        refine ⟨q, _, _, nm, fun z => ?_, fun k' hk' e'' => ?_⟩
        · rw [c3] at z
          cases z
        · rw [nI_eq (by omega) (by omega)] at e''
          rw [← e'']
      · rw [Bool.not_eq_true] at c3
        rw [c3, bI_f, if_pos rfl]
        refine ⟨M1, _, rfl, ⟨ar', d', b2, b3, b4, b5⟩, (fun z => by cases z), fun p' g' hp' hg' e e' => ?_⟩
        rw [nI_eq (by omega) (by omega)] at e e'
        rw [← e]
        refine ⟨q, _, _, nm, fun _ => rfl, fun k' hk' e'' => ?_⟩
        rw [e'', ibx_nI (by omega) (by omega), decide_eq_true hk'] at c3
        cases c3
    · rw [Bool.not_eq_true] at c2
      rw [c2, bI_f, if_pos rfl]
      refine ⟨M, -1, rfl, McR.same h hc hm, fun _ => rfl, fun p' g' hp' hg' e e' => ?_⟩
      rw [e', ibx_nI (by omega) (by omega), decide_eq_true hg'] at c2
      cases c2
  · rw [Bool.not_eq_true] at c
    rw [c, bI_f, if_pos rfl]
    refine ⟨M, -1, rfl, McR.same h hc hm, fun _ => rfl, fun p' g' hp' hg' e e' => ?_⟩
    rw [e, ibx_nI (by omega) (by omega), decide_eq_true hp'] at c
    cases c
theorem S11_good {M : MM} {ar : Nat → Nat} {d : Nat} (h : CoC M P o nw) (hc : CostC M P o) (hm : MacC M P o ar d) (x y : Int32) : ∃ M' r, f11_good M 1 x y = some (r, M') ∧ McR M d P o nw M' ∧ (ibx (pS P) x = false → r = -1) ∧ ∀ p, p < pS P → x = nI p → ∃ q nb L, NmA P o p q nb L ∧ (ibx q y = false → r = -1) ∧ ∀ k, k < q → y = nI k → r = bI (L k []) := by
  have w := h.1
  have hp := h.2.1
  have p5 := hp.1
  obtain ⟨a1, e1, e3⟩ := h.pr
  unfold f11_good
  rw [aO_1 w, e1, e3.oP w, S7_hasState w e3, cI_some]
  by_cases c : ibx (pS P) x = true
  · obtain ⟨p, hp0, rfl⟩ := ibx_out c (by omega)
    obtain ⟨M1, ar', d', E, R, n, S, t, K, os, q, v, b1, b2, b3, b4, b5, b6⟩ := S11_settleMachine h hc hm hp0
    have w1 := b3.1
    obtain ⟨qn, q0, le⟩ := b6.row
    have nm := b6.nm hp (okT_g hp) hp0
    rw [c, bI_t, if_neg (by decide), aO_1 w, b1, cV_some, aO_1 w1, r_1_9 w1, aO_61 w1, S5_hasNode w1 b6.2.2.1.1, cI_some]
    by_cases c3 : ibx q y = true
    · obtain ⟨k, hk0, rfl⟩ := ibx_out c3 (by omega)
      rw [c3, bI_t, if_neg (by decide), aO_1 w1, r_1_9 w1, aO_61 w1, S5_isGoodNode b6 hk0, cI_some]
      refine ⟨M1, bI (avS 15 (mC E) (endS (gTG P)) (S (os k)) []), ?_, ⟨ar', d', b2, b3, b4, b5⟩, (fun z => by cases z), fun p' hp' e => ?_⟩
      · cases avS 15 (mC E) (endS (gTG P)) (S (os k)) []
        · rfl
        · rfl
      · rw [nI_eq (by omega) (by omega)] at e
        rw [← e]
        refine ⟨q, _, _, nm, fun z => ?_, fun k' hk' e'' => ?_⟩
        · rw [c3] at z
          cases z
        · rw [nI_eq (by omega) (by omega)] at e''
          rw [← e'']
    · rw [Bool.not_eq_true] at c3
      rw [c3, bI_f, if_pos rfl]
      refine ⟨M1, _, rfl, ⟨ar', d', b2, b3, b4, b5⟩, (fun z => by cases z), fun p' hp' e => ?_⟩
      rw [nI_eq (by omega) (by omega)] at e
      rw [← e]
      refine ⟨q, _, _, nm, fun _ => rfl, fun k' hk' e'' => ?_⟩
      rw [e'', ibx_nI (by omega) (by omega), decide_eq_true hk'] at c3
      cases c3
  · rw [Bool.not_eq_true] at c
    rw [c, bI_f, if_pos rfl]
    refine ⟨M, -1, rfl, McR.same h hc hm, fun _ => rfl, fun p' hp' e => ?_⟩
    rw [e, ibx_nI (by omega) (by omega), decide_eq_true hp'] at c
    cases c
theorem S11_same {M : MM} {ar : Nat → Nat} {d : Nat} (h : CoC M P o nw) (hc : CostC M P o) (hm : MacC M P o ar d) (x y : Int32) : ∃ M' r, f11_same M 1 x y = some (r, M') ∧ McR M d P o nw M' ∧ ((ibx (pS P) x && ibx (pS P) y) = false → r = -1) ∧ ∀ p p', p < pS P → p' < pS P → x = nI p → y = nI p' → ∃ b, r = bI b ∧ smA P o p p' b := by
  have w := h.1
  have hp := h.2.1
  have p5 := hp.1
  obtain ⟨a1, e1, e3⟩ := h.pr
  unfold f11_same
  rw [aO_1 w, e1, e3.oP w, S7_hasState w e3, cI_some]
  by_cases c : ibx (pS P) x = true
  · obtain ⟨p, hp0, rfl⟩ := ibx_out c (by omega)
    rw [c, bI_t, if_neg (by decide), aO_1 w, e1, e3.oP w, S7_hasState w e3, cI_some, Bool.true_and]
    by_cases c2 : ibx (pS P) y = true
    · obtain ⟨p', hp0', rfl⟩ := ibx_out c2 (by omega)
      obtain ⟨M1, ar', d', E, R, n, S, t, K, os, q, v, b1, b2, b3, b4, b5, b6⟩ := S11_settleMachine h hc hm hp0
      have w1 := b3.1
      obtain ⟨qn, q0, le⟩ := b6.row
      obtain ⟨⟨hE, tc, pk, ok⟩, -⟩ := b6
      obtain ⟨k1, -, -, -, -, -, -, -, -, k7, -⟩ := tc.1.k5
      obtain ⟨s1, s2⟩ := tc.2.2.2.2.2.2.1 p hp0
      obtain ⟨s1', s2'⟩ := tc.2.2.2.2.2.2.1 p' hp0'
      have hr := tc.2.2.1
      have q1 := pk p s1
      have q2 := pk p' s1'
      have sa : f5_startAlike M1 61 (nI p) (nI p') = some (bI (decide (K p = K p')), M1) := by
        unfold f5_startAlike
        rw [aO_61 w1, tc.1.oI k1, tc.1.get k1 (by rw [k7]; omega), cI_some, aO_61 w1, tc.1.oI k1, tc.1.get k1 (by rw [k7]; omega), cI_some, q1.1, q2.1]
        simp only [c_eq (show K p < 2 ^ 31 by omega) (show K p' < 2 ^ 31 by omega)]
        by_cases e : K p = K p'
        · rw [if_pos e, decide_eq_true e]
          rfl
        · rw [if_neg e, decide_eq_false e]
          rfl
      rw [c2, bI_t, if_neg (by decide), aO_1 w, b1, cV_some, aO_1 w1, r_1_9 w1, aO_61 w1, sa, cI_some]
      refine ⟨M1, bI (decide (K p = K p')), ?_, ⟨ar', d', b2, b3, b4, b5⟩, (fun z => by cases z), fun x' y' hx' hy' e e' => ?_⟩
      · cases decide (K p = K p')
        · rfl
        · rfl
      · rw [nI_eq (by omega) (by omega)] at e e'
        rw [← e, ← e']
        refine ⟨_, rfl, _, _, LwA_E hp hE (show p < 5 by omega), LwA_E hp hE (show p' < 5 by omega), ?_⟩
        rw [decide_eq_true_iff, ok.2 p p' s1 s1', s2, s2']
        refine ⟨fun q w hw => ?_, fun q w hw => ?_⟩
        · rw [← avS_one (by omega), ← avS_one (by omega)]
          exact q w hw
        · rw [avS_one (by omega), avS_one (by omega)]
          exact q w hw
    · rw [Bool.not_eq_true] at c2
      rw [c2, bI_f, if_pos rfl]
      refine ⟨M, -1, rfl, McR.same h hc hm, fun _ => rfl, fun x' y' hx' hy' e e' => ?_⟩
      rw [e', ibx_nI (by omega) (by omega), decide_eq_true hy'] at c2
      cases c2
  · rw [Bool.not_eq_true] at c
    rw [c, bI_f, if_pos rfl]
    refine ⟨M, -1, rfl, McR.same h hc hm, fun _ => rfl, fun x' y' hx' hy' e e' => ?_⟩
    rw [e, ibx_nI (by omega) (by omega), decide_eq_true hx'] at c
    cases c
end FACEC
