/-! rule, goal, about, fault -/
section ASK
variable {P : PG} {o : Nat} {nw : NW}
def ruV (P : PG) (o : Nat) (x y : Int32) (r : Int32) : Prop := (ibx (pR P) x = false → r = -2) ∧ ∀ k, k < pR P → x = nI k → (y = 7 → r = bI (o.testBit k)) ∧ (∀ c, c < 7 → y = nI c → r = clR P k c) ∧ (ibx 8 y = false → r = -2)
theorem ruV_eq {x y r r' : Int32} (a : ruV P o x y r) (b : ruV P o x y r') (h : pR P ≤ 14) : r = r' := by
  by_cases c : ibx (pR P) x = true
  · obtain ⟨k, hk, e⟩ := ibx_out c (by omega)
    obtain ⟨a1, a2, a3⟩ := a.2 k hk e
    obtain ⟨b1, b2, b3⟩ := b.2 k hk e
    by_cases c2 : ibx 8 y = true
    · obtain ⟨i, hi, e2⟩ := ibx_out c2 (by omega)
      by_cases c3 : i = 7
      · rw [c3] at e2
        rw [a1 e2, b1 e2]
      · rw [a2 i (by omega) e2, b2 i (by omega) e2]
    · rw [Bool.not_eq_true] at c2
      rw [a3 c2, b3 c2]
  · rw [Bool.not_eq_true] at c
    rw [a.1 c, b.1 c]
theorem S11_rule {M : MM} (h : CoC M P o nw) (x y : Int32) : ∃ r, f11_rule M 1 x y = some (r, M) ∧ ruV P o x y r := by
  have w := h.1
  have hp := h.2.1
  have r14 := hp.2.2.1
  obtain ⟨a1, e1, e3⟩ := h.pr
  unfold f11_rule
  rw [aO_1 w, e1, e3.oP w, S7_hasRule w e3, cI_some]
  by_cases c : ibx (pR P) x = true
  · obtain ⟨k, hk, rfl⟩ := ibx_out c (by omega)
    rw [c, if_neg (show ¬ bI true = 0 by decide)]
    by_cases c7 : y = 7
    · rw [if_pos c7, aO_1 w, S11_isOut h (by omega), cI_some]
      refine ⟨bI (o.testBit k), ?_, (fun z => by rw [c] at z; cases z), fun k' hk' e => ?_⟩
      · cases o.testBit k <;> rfl
      · rw [nI_eq (by omega) (by omega)] at e
        rw [← e, c7]
        refine ⟨fun _ => rfl, fun i hi e2 => ?_, (fun z => absurd z (by decide))⟩
        rw [show (7 : Int32) = nI 7 from rfl, nI_eq (by omega) (by omega)] at e2
        omega
    · rw [if_neg c7]
      by_cases c0 : y < 0
      · rw [if_pos c0]
        refine ⟨-2, rfl, fun _ => rfl, fun k' hk' e => ⟨fun z => absurd z c7, fun i hi e2 => ?_, fun _ => rfl⟩⟩
        rw [e2] at c0
        exact absurd c0 (nI_pos (by omega))
      · obtain ⟨i, hi, rfl⟩ := nI_of c0
        rw [if_neg c0]
        by_cases c8 : (7 : Int32) ≤ nI i
        · rw [if_pos c8]
          refine ⟨-2, rfl, fun _ => rfl, fun k' hk' e => ⟨fun z => absurd z c7, fun i' hi' e2 => ?_, fun _ => rfl⟩⟩
          rw [e2, show (7 : Int32) = nI 7 from rfl, c_le (by omega) (by omega)] at c8
          omega
        · rw [if_neg c8]
          rw [show (7 : Int32) = nI 7 from rfl, c_le (by omega) hi] at c8
          rw [aO_1 w, e1, e3.oP w, S7_ofRule w e3 hk (by omega) hp, cI_some]
          refine ⟨_, rfl, (fun z => by rw [c] at z; cases z), fun k' hk' e => ?_⟩
          rw [nI_eq (by omega) (by omega)] at e
          rw [← e]
          refine ⟨fun z => absurd z c7, fun i' hi' e2 => ?_, fun z => ?_⟩
          · rw [nI_eq hi (by omega)] at e2
            rw [e2]
          · rw [ibx_nI (by omega) hi, decide_eq_true (by omega)] at z
            cases z
  · rw [Bool.not_eq_true] at c
    rw [c, if_pos (show bI false = 0 from rfl)]
    refine ⟨-2, rfl, fun _ => rfl, fun k hk e => ?_⟩
    rw [e, ibx_nI (by omega) (by omega), decide_eq_true hk] at c
    cases c
theorem SM_rule {M : MM} (h : CoM M P o nw) (x y : Int32) : ∃ r, f12_rule M 86 x y = some (r, sI M 86 0 0) ∧ ruV P o x y r := by
  have w := h.1
  have hp := h.2.1
  have r14 := hp.2.2.1
  have ho := h.2.2.1
  have w0 : Wl (sI M 86 0 0) := w
  have h0 := h.th 0
  unfold f12_rule
  rw [aO_86 w, bM_e, aO_86 w0, SM_isRule w0 h0.2.2.2.1 hp, cI_some]
  by_cases c : ibx (pR P) x = true
  · obtain ⟨k, hk, rfl⟩ := ibx_out c (by omega)
    have ib : (!decide (y < 0) && !decide ((7 : Int32) < y)) = ibx 8 y := ib_pred (n := 8) (by omega) y
    rw [c, if_neg (show ¬ bI true = 0 by decide), SM_in, cI_some, ib]
    by_cases c8 : ibx 8 y = true
    · obtain ⟨i, hi, rfl⟩ := ibx_out c8 (by omega)
      rw [c8, if_neg (show ¬ bI true = 0 by decide)]
      by_cases c7 : i = 7
      · have e5 : mI (sI M 86 0 0) 86 5 = nI o := h0.2.2.2.1.1
        rw [if_pos (show nI i = 7 by rw [c7]; rfl), aO_86 w0, e5, bS (by omega) (by omega)]
        refine ⟨_, rfl, (fun z => by rw [c] at z; cases z), fun k' hk' e => ?_⟩
        rw [nI_eq (by omega) (by omega)] at e
        rw [← e]
        refine ⟨fun _ => rfl, fun i' hi' e2 => ?_, (fun z => by rw [c8] at z; cases z)⟩
        rw [nI_eq (by omega) (by omega)] at e2
        omega
      · rw [if_neg (show ¬ nI i = 7 by rw [show (7 : Int32) = nI 7 from rfl, nI_eq (by omega) (by omega)]; exact c7), aO_86 w0, S12_ruleOf w0 h0.2.2.2.1 hp hk (by omega), cI_some]
        refine ⟨_, rfl, (fun z => by rw [c] at z; cases z), fun k' hk' e => ?_⟩
        rw [nI_eq (by omega) (by omega)] at e
        rw [← e]
        refine ⟨fun z => ?_, fun i' hi' e2 => ?_, (fun z => by rw [c8] at z; cases z)⟩
        · rw [show (7 : Int32) = nI 7 from rfl, nI_eq (by omega) (by omega)] at z
          exact absurd z c7
        · rw [nI_eq (by omega) (by omega)] at e2
          rw [e2]
    · rw [Bool.not_eq_true] at c8
      rw [c8, if_pos (show bI false = 0 from rfl)]
      refine ⟨-2, rfl, fun _ => rfl, fun k' hk' e => ⟨fun z => ?_, fun i hi e2 => ?_, fun _ => rfl⟩⟩
      · rw [z] at c8
        exact absurd c8 (by decide)
      · rw [e2, ibx_nI (by omega) (by omega), decide_eq_true (by omega)] at c8
        cases c8
  · rw [Bool.not_eq_true] at c
    rw [c, if_pos (show bI false = 0 from rfl)]
    refine ⟨-2, rfl, fun _ => rfl, fun k hk e => ?_⟩
    rw [e, ibx_nI (by omega) (by omega), decide_eq_true hk] at c
    cases c
def goV (P : PG) (x y : Int32) (r : Int32) : Prop := (ibx (pK P) x = false → r = -2) ∧ ∀ k, k < pK P → x = nI k → (∀ c, c < 3 → y = nI c → r = nI (P.2.2 k c)) ∧ (∀ i, i < kn P k → y = nI (10 + i) → r = nI (ks P k i)) ∧ (ibx 3 y = false → (∀ i, i < kn P k → y ≠ nI (10 + i)) → r = -2)
theorem goV_eq {x y r r' : Int32} (a : goV P x y r) (b : goV P x y r') (h : pK P ≤ 4) : r = r' := by
  by_cases c : ibx (pK P) x = true
  · obtain ⟨k, hk, e⟩ := ibx_out c (by omega)
    obtain ⟨a1, a2, a3⟩ := a.2 k hk e
    obtain ⟨b1, b2, b3⟩ := b.2 k hk e
    by_cases c2 : ibx 3 y = true
    · obtain ⟨i, hi, e2⟩ := ibx_out c2 (by omega)
      rw [a1 i hi e2, b1 i hi e2]
    · rw [Bool.not_eq_true] at c2
      by_cases c3 : ∃ i, i < kn P k ∧ y = nI (10 + i)
      · obtain ⟨i, hi, e2⟩ := c3
        rw [a2 i hi e2, b2 i hi e2]
      · have no : ∀ i, i < kn P k → y ≠ nI (10 + i) := fun i hi e => c3 ⟨i, hi, e⟩
        rw [a3 c2 no, b3 c2 no]
  · rw [Bool.not_eq_true] at c
    rw [a.1 c, b.1 c]
theorem go_c {k c : Nat} (hk : k < pK P) (hp : WP P) (hc : c < 3) : goV P (nI k) (nI c) (nI (P.2.2 k c)) := by
  have k4 := hp.2.2.2.1
  have k3 := (hp.2.2.2.2.2 k hk).2.1
  refine ⟨fun z => ?_, fun k' hk' e => ?_⟩
  · rw [ibx_nI (by omega) (by omega), decide_eq_true hk] at z
    cases z
  · rw [nI_eq (by omega) (by omega)] at e
    rw [← e]
    refine ⟨fun c' hc' e2 => ?_, fun i hi e2 => ?_, fun z => ?_⟩
    · rw [nI_eq (by omega) (by omega)] at e2
      rw [e2]
    · rw [nI_eq (by omega) (by omega)] at e2
      omega
    · rw [ibx_nI (by omega) (by omega), decide_eq_true hc] at z
      cases z
theorem go_i {k i : Nat} (hk : k < pK P) (hp : WP P) (hi : i < kn P k) : goV P (nI k) (nI (10 + i)) (nI (ks P k i)) := by
  have k4 := hp.2.2.2.1
  have k3 := (hp.2.2.2.2.2 k hk).2.1
  refine ⟨fun z => ?_, fun k' hk' e => ?_⟩
  · rw [ibx_nI (by omega) (by omega), decide_eq_true hk] at z
    cases z
  · rw [nI_eq (by omega) (by omega)] at e
    rw [← e]
    refine ⟨fun c' hc' e2 => ?_, fun i' hi' e2 => ?_, fun _ z => absurd rfl (z i hi)⟩
    · rw [nI_eq (by omega) (by omega)] at e2
      omega
    · rw [nI_eq (by omega) (by omega)] at e2
      rw [show i' = i by omega]
theorem go_n {k : Nat} {y : Int32} (hk : k < pK P) (hp : WP P) (h1 : ibx 3 y = false) (h2 : ∀ i, i < kn P k → y ≠ nI (10 + i)) : goV P (nI k) y (-2) := by
  have k4 := hp.2.2.2.1
  refine ⟨fun _ => rfl, fun k' hk' e => ?_⟩
  rw [nI_eq (by omega) (by omega)] at e
  rw [← e]
  refine ⟨fun c hc z => ?_, fun i hi z => absurd z (h2 i hi), fun _ _ => rfl⟩
  rw [z, ibx_nI (by omega) (by omega), decide_eq_true hc] at h1
  cases h1
theorem go_0 {x y : Int32} (hp : WP P) (h : ibx (pK P) x = false) : goV P x y (-2) := ⟨fun _ => rfl, fun k hk e => by
  have k4 := hp.2.2.2.1
  rw [e, ibx_nI (by omega) (by omega), decide_eq_true hk] at h
  cases h⟩
theorem S11_goal {M : MM} (h : CoC M P o nw) (x y : Int32) : ∃ r, f11_goal M 1 x y = some (r, M) ∧ goV P x y r := by
  have w := h.1
  have hp := h.2.1
  have k4 := hp.2.2.2.1
  obtain ⟨a1, e1, e3⟩ := h.pr
  unfold f11_goal
  by_cases c0 : x < 0
  · rw [if_pos c0]
    refine ⟨-2, rfl, go_0 hp ?_⟩
    unfold ibx
    rw [decide_eq_true c0]
    rfl
  · obtain ⟨k, hk31, rfl⟩ := nI_of c0
    rw [if_neg c0, aO_1 w, e1, e3.oP w, e3.2.2.2.2.1]
    by_cases c1 : nI k < nI (pK P)
    · rw [if_pos c1]
      rw [c_lt hk31 (by omega)] at c1
      have k3 := (hp.2.2.2.2.2 k c1).2.1
      by_cases c3 : ibx 3 y = true
      · obtain ⟨i, hi, rfl⟩ := ibx_out c3 (by omega)
        rw [if_neg (nI_pos (by omega)), if_neg (show ¬ (2 : Int32) < nI i by rw [show (2 : Int32) = nI 2 from rfl, c_lt (by omega) (by omega)]; omega), aO_1 w, e3.oP w, S7_ofGoal w e3 c1 (by omega) hp, cI_some]
        exact ⟨_, rfl, go_c c1 hp hi⟩
      · rw [Bool.not_eq_true] at c3
        have toB : (if y < 0 then f11_goal_b37 M 1 (nI k) y else if (2 : Int32) < y then f11_goal_b37 M 1 (nI k) y else (aO M 1 11 <| aO M a1 7 <| cI (f7_ofGoal M a1 (nI k) y) fun r33 M33 => some (r33, M33))) = f11_goal_b37 M 1 (nI k) y := by
          by_cases y0 : y < 0
          · rw [if_pos y0]
          · obtain ⟨j, hj, rfl⟩ := nI_of y0
            rw [if_neg y0, if_pos]
            rw [ibx_nI (by omega) hj] at c3
            have := of_decide_eq_false c3
            rw [show (2 : Int32) = nI 2 from rfl, c_lt (by omega) hj]
            omega
        rw [toB]
        unfold f11_goal_b37 f11_goal_b63 f11_goal_b64
        have one : f7_ofGoal M a1 (nI k) 1 = some (nI (kn P k), M) := S7_ofGoal w e3 c1 (c := 1) (by omega) hp
        by_cases y10 : y < 10
        · rw [if_pos y10, if_pos rfl]
          refine ⟨-2, rfl, go_n c1 hp c3 (fun i hi z => ?_)⟩
          rw [z, show (10 : Int32) = nI 10 from rfl, c_lt (by omega) (by omega)] at y10
          omega
        · obtain ⟨j, hj, rfl⟩ := nI_of (show ¬ y < 0 from fun z => y10 (by
            rw [Int32.lt_iff_toInt_lt] at z ⊢
            have : (0 : Int32).toInt = 0 := rfl
            have : (10 : Int32).toInt = 10 := rfl
            omega))
          have j10 : 10 ≤ j := by
            rw [show (10 : Int32) = nI 10 from rfl, c_lt hj (by omega)] at y10
            omega
          rw [if_neg y10, aO_1 w, e1, e3.oP w, one, cI_some, show (10 : Int32) = nI 10 from rfl, nI_subN j10]
          by_cases c4 : kn P k ≤ j - 10
          · rw [if_pos (nI_le c4 (by omega)), if_pos rfl]
            refine ⟨-2, rfl, go_n c1 hp c3 (fun i hi z => ?_)⟩
            rw [nI_eq hj (by omega)] at z
            omega
          · have og : f7_ofGoal M a1 (nI k) (nI (3 + (j - 10))) = some (nI (ks P k (j - 10)), M) := S7_ofGoal w e3 c1 (c := 3 + (j - 10)) (by omega) hp
            rw [if_neg (nI_ge (by omega) (by omega)), if_neg (by decide), aO_1 w, e1, e3.oP w, lit_3, nI_add, nI_subN (by omega), show 3 + j - 10 = 3 + (j - 10) by omega, og, cI_some]
            have e : j = 10 + (j - 10) := by omega
            have := go_i (P := P) c1 hp (show j - 10 < kn P k by omega)
            rw [← e] at this
            exact ⟨_, rfl, this⟩
    · rw [if_neg c1]
      rw [c_lt hk31 (by omega)] at c1
      refine ⟨-2, rfl, go_0 hp ?_⟩
      rw [ibx_nI (by omega) hk31]
      exact decide_eq_false c1
theorem SM_goal {M : MM} (h : CoM M P o nw) (x y : Int32) : ∃ r, f12_goal M 86 x y = some (r, sI M 86 0 0) ∧ goV P x y r := by
  have w := h.1
  have hp := h.2.1
  have k4 := hp.2.2.2.1
  have w0 : Wl (sI M 86 0 0) := w
  have h0 := h.th 0
  have pg := h0.2.2.2.1
  unfold f12_goal
  rw [aO_86 w, bM_e, aO_86 w0, r_86_1 w0, lit_3, aA_87 w0 (by omega), nI_clamp (by omega), pg.2.2.2.2.1, SM_in, cI_some, ib_pred (by omega)]
  by_cases c : ibx (pK P) x = true
  · obtain ⟨k, hk, rfl⟩ := ibx_out c (by omega)
    have k3 := (hp.2.2.2.2.2 k hk).2.1
    have rk := pg.2.2.2.2.2.2 k hk
    have one : mI (sI M 86 0 0) 90 (6 * k + 1) = nI (kn P k) := rk 1 (by omega)
    have ib : (!decide (y < 0) && !decide ((2 : Int32) < y)) = ibx 3 y := ib_pred (n := 3) (by omega) y
    rw [c, if_neg (show ¬ bI true = 0 by decide), SM_in, cI_some, ib]
    by_cases c3 : ibx 3 y = true
    · obtain ⟨i, hi, rfl⟩ := ibx_out c3 (by omega)
      rw [c3, if_neg (show ¬ bI true = 0 by decide)]
      unfold f12_goal_b56
      rw [if_neg (show ¬ (10 : Int32) ≤ nI i by rw [show (10 : Int32) = nI 10 from rfl, c_le (by omega) (by omega)]; omega), aO_86 w0, r_86_4 w0, lit_6, nI_mulN, nI_add, aA_90 w0 (by omega), nI_clamp (by omega), rk i (by omega)]
      exact ⟨_, rfl, go_c hk hp hi⟩
    · rw [Bool.not_eq_true] at c3
      rw [c3, if_pos (show bI false = 0 from rfl), aO_86 w0, r_86_4 w0, lit_6, nI_mulN, nI_1, aA_90 w0 (by omega), nI_clamp (by omega), one, show (9 : Int32) = nI 9 from rfl, nI_add, SM_in, cI_some]
      by_cases y10 : y < 10
      · rw [decide_eq_true y10, Bool.not_true, Bool.false_and, if_pos (show bI false = 0 from rfl)]
        refine ⟨-2, rfl, go_n hk hp c3 (fun i hi z => ?_)⟩
        rw [z, show (10 : Int32) = nI 10 from rfl, c_lt (by omega) (by omega)] at y10
        omega
      · obtain ⟨j, hj, rfl⟩ := nI_of (show ¬ y < 0 from fun z => y10 (by
          rw [Int32.lt_iff_toInt_lt] at z ⊢
          have : (0 : Int32).toInt = 0 := rfl
          have : (10 : Int32).toInt = 10 := rfl
          omega))
        have j10 : 10 ≤ j := by
          rw [show (10 : Int32) = nI 10 from rfl, c_lt hj (by omega)] at y10
          omega
        rw [decide_eq_false y10, Bool.not_false, Bool.true_and]
        by_cases c4 : nI (9 + kn P k) < nI j
        · rw [decide_eq_true c4, Bool.not_true, if_pos (show bI false = 0 from rfl)]
          rw [c_lt (by omega) hj] at c4
          refine ⟨-2, rfl, go_n hk hp c3 (fun i hi z => ?_)⟩
          rw [nI_eq hj (by omega)] at z
          omega
        · rw [decide_eq_false c4, Bool.not_false, if_neg (show ¬ bI true = 0 by decide)]
          rw [c_lt (by omega) hj] at c4
          have og : mI (sI M 86 0 0) 90 (6 * k + (3 + (j - 10))) = nI (ks P k (j - 10)) := rk (3 + (j - 10)) (by omega)
          unfold f12_goal_b56
          rw [if_pos (show (10 : Int32) ≤ nI j by rw [show (10 : Int32) = nI 10 from rfl, c_le (by omega) hj]; exact j10), aO_86 w0, r_86_4 w0, lit_6, nI_mulN, nI_add, lit_7, nI_subN (by omega), aA_90 w0 (by omega), nI_clamp (by omega), show 6 * k + j - 7 = 6 * k + (3 + (j - 10)) by omega, og]
          have e : j = 10 + (j - 10) := by omega
          have := go_i (P := P) hk hp (show j - 10 < kn P k by omega)
          rw [← e] at this
          exact ⟨_, rfl, this⟩
  · rw [Bool.not_eq_true] at c
    rw [c, if_pos (show bI false = 0 from rfl)]
    exact ⟨-2, rfl, go_0 hp c⟩
theorem S11_fault {M : MM} (w : Wl M) (x : Int32) : f11_fault M 1 x = some (if x = 0 then mI M 22 2 else if x = 1 then mI M 22 3 else -1, M) := by
  unfold f11_fault
  rw [aO_1 w, r_1_1 w, aO_22 w, aO_22 w]
  by_cases c : x = 0
  · rw [if_pos c, if_pos c]
  · rw [if_neg c, if_neg c]
    by_cases c1 : x = 1
    · rw [if_pos c1, if_pos c1, aO_1 w]
    · rw [if_neg c1, if_neg c1]
theorem SM_fault {M : MM} (w : Wl M) (x : Int32) : f12_fault M 86 x = some (if x = 0 then mI M 86 13 else if x = 1 then mI M 86 14 else -1, sI M 86 0 0) := by
  have w0 : Wl (sI M 86 0 0) := w
  unfold f12_fault
  have e13 : mI (sI M 86 0 0) 86 13 = mI M 86 13 := th_f (by decide)
  have e14 : mI (sI M 86 0 0) 86 14 = mI M 86 14 := th_f (by decide)
  rw [aO_86 w, bM_e, aO_86 w0, aO_86 w0, e13, e14]
  by_cases c : x = 0
  · rw [if_pos c, if_pos c]
  · rw [if_neg c, if_neg c]
    by_cases c1 : x = 1
    · rw [if_pos c1, if_pos c1]
    · rw [if_neg c1, if_neg c1]
def abV (P : PG) (o n l : Nat) (x : Int32) : Int32 := if x = 0 then nI (pS P) else if x = 1 then nI (pG P) else if x = 2 then nI (pR P) else if x = 3 then nI (pK P) else if x = 4 then nI o else if x = 5 then nI n else if x = 6 then nI l else -1
theorem S11_about {M : MM} {n l : Nat} (h : CoC M P o nw) (hn : mI M 29 2 = nI n) (hl : mI M 2 2 = nI l) (x : Int32) : f11_about M 1 x = some (abV P o n l x, M) := by
  have w := h.1
  obtain ⟨a1, e1, e3⟩ := h.pr
  unfold f11_about abV
  rw [aO_1 w, e1, e3.oP w, aO_1 w, e3.oP w, aO_1 w, e3.oP w, aO_1 w, e3.oP w, aO_1 w, aO_1 w, r_1_4 w, aO_29 w, aO_1 w, r_1_0 w, aO_2 w, e3.2.1, e3.2.2.1, e3.2.2.2.1, e3.2.2.2.2.1, h.2.2.2.2.1, hn, hl]
  by_cases c0 : x = 0
  · rw [if_pos c0, if_pos c0]
  · rw [if_neg c0, if_neg c0]
    by_cases c1 : x = 1
    · rw [if_pos c1, if_pos c1]
    · rw [if_neg c1, if_neg c1]
      by_cases c2 : x = 2
      · rw [if_pos c2, if_pos c2]
      · rw [if_neg c2, if_neg c2]
        by_cases c3 : x = 3
        · rw [if_pos c3, if_pos c3]
        · rw [if_neg c3, if_neg c3]
          by_cases c4 : x = 4
          · rw [if_pos c4, if_pos c4]
          · rw [if_neg c4, if_neg c4]
            by_cases c5 : x = 5
            · rw [if_pos c5, if_pos c5]
            · rw [if_neg c5, if_neg c5]
              by_cases c6 : x = 6
              · rw [if_pos c6, if_pos c6]
              · rw [if_neg c6, if_neg c6]
theorem SM_about {M : MM} {n l : Nat} (h : CoM M P o nw) (hn : mI M 86 23 = nI n) (hl : mI M 86 7 = nI l) (x : Int32) : f12_about M 86 x = some (abV P o n l x, sI M 86 0 0) := by
  have w := h.1
  have w0 : Wl (sI M 86 0 0) := w
  have pg := (h.th 0).2.2.2.1
  have hn' : mI (sI M 86 0 0) 86 23 = nI n := by rw [mI_sI, if_neg (by decide)]; exact hn
  have hl' : mI (sI M 86 0 0) 86 7 = nI l := by rw [mI_sI, if_neg (by decide)]; exact hl
  unfold f12_about abV
  rw [aO_86 w, bM_e]
  by_cases c0 : x = 0
  · rw [if_pos c0, if_pos c0, aO_86 w0, r_86_1 w0, show x = nI 0 from c0, aA_87 w0 (by omega), nI_clamp (by omega), pg.2.1]
  · rw [if_neg c0, if_neg c0]
    by_cases c1 : x = 1
    · rw [if_pos c1, if_pos c1, aO_86 w0, r_86_1 w0, c1, lit_1, aA_87 w0 (by omega), nI_clamp (by omega), pg.2.2.1]
    · rw [if_neg c1, if_neg c1]
      by_cases c2 : x = 2
      · rw [if_pos c2, if_pos c2, aO_86 w0, r_86_1 w0, c2, lit_2, aA_87 w0 (by omega), nI_clamp (by omega), pg.2.2.2.1]
      · rw [if_neg c2, if_neg c2]
        by_cases c3 : x = 3
        · rw [if_pos c3, if_pos c3, aO_86 w0, r_86_1 w0, c3, lit_3, aA_87 w0 (by omega), nI_clamp (by omega), pg.2.2.2.2.1]
        · rw [if_neg c3, if_neg c3]
          by_cases c4 : x = 4
          · rw [if_pos c4, if_pos c4, aO_86 w0, pg.1]
          · rw [if_neg c4, if_neg c4]
            by_cases c5 : x = 5
            · rw [if_pos c5, if_pos c5, aO_86 w0, hn']
            · rw [if_neg c5, if_neg c5]
              by_cases c6 : x = 6
              · rw [if_pos c6, if_pos c6, aO_86 w0, hl']
              · rw [if_neg c6, if_neg c6]
end ASK
