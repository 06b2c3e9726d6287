/-! NOW: what can be stepped, steps; both sides -/
section STEP
variable {P : PG} {o : Nat} {nw : NW}
def canB (P : PG) (o : Nat) : NW → Nat → Bool
  | none, _ => false
  | some q, r => decide (0 < q.2.1) && (rfor P o r q.1 (q.2.2 (q.2.1 - 1)) && decide (q.2.1 - 1 + rn P r ≤ 40))
def canN (P : PG) (o : Nat) (nw : NW) : Nat := bsN (canB P o nw) (pR P)
def stpN (P : PG) (r : Nat) : NW → NW
  | none => none
  | some q => some (rt P r, q.2.1 - 1 + rn P r, pushR P r (q.2.1 - 1) q.2.2)
def hgt : NW → Nat
  | none => 0
  | some q => q.2.1
theorem stpN_WN (hp : WP P) {r : Nat} (hr : r < pR P) (hw : WN P nw) (hc : canB P o nw r = true) : WN P (stpN P r nw) := by
  cases nw with
  | none => trivial
  | some q =>
    have c : (decide (0 < q.2.1) && (rfor P o r q.1 (q.2.2 (q.2.1 - 1)) && decide (q.2.1 - 1 + rn P r ≤ 40))) = true := hc
    rw [Bool.and_eq_true, Bool.and_eq_true, decide_eq_true_eq, decide_eq_true_eq] at c
    exact ⟨(hp.2.2.2.2.1 r hr).2.2.1, c.2.2, push_lt hp hr (fun i hi => hw.2.2 i (by omega))⟩
theorem S11_canStep {M : MM} (h : CoC M P o nw) {k : Nat} (hk : k < pR P) : f11_canStep M 1 (nI k) = some (bI (canB P o nw k), M) := by
  have w := h.1
  have hp := h.2.1
  have r14 := hp.2.2.1
  have p5 := hp.1
  have n2 := hp.n2 hk
  have ho := h.2.2.1
  obtain ⟨a1, e1, e3⟩ := h.pr
  unfold f11_canStep
  rw [aO_1 w, aO_1 w, aO_1 w, e1, e3.oP w, r_1_2 w, h.2.2.2.2.1]
  cases nw with
  | none =>
    have e : mI M 23 3 = 0 := h.2.2.2.2.2.1.2.2
    have : f7_applies M a1 (nI k) 23 (nI o) = some (0, M) := by
      unfold f7_applies
      rw [aO_23 w, e, if_pos (by decide)]
    rw [this, cI_some, if_pos rfl]
    rfl
  | some q =>
    obtain ⟨p, H, s⟩ := q
    have pl : PlC M 23 p H s := h.2.2.2.2.2.1
    have wn := h.2.2.2.2.2.2
    have p1 : p < pS P := wn.1
    have H40 : H ≤ 40 := wn.2.1
    have g6 := hp.2.1
    have hs : ∀ i, i < H → s i < 6 := fun i hi => Nat.lt_of_lt_of_le (wn.2.2 i hi) g6
    rw [S7_applies w e3 hp (by omega) pl (by omega) (by omega) hs, cI_some]
    show _ = some (bI (decide (0 < H) && (rfor P o k p (s (H - 1)) && decide (H - 1 + rn P k ≤ 40))), M)
    by_cases c0 : 0 < H
    · rw [decide_eq_true c0, Bool.true_and, Bool.true_and]
      cases rfor P o k p (s (H - 1)) with
      | false =>
        rw [if_pos (show bI false = 0 from rfl), Bool.false_and]
        rfl
      | true =>
        have e13 : mI M 23 3 = nI H := pl.2.2.2.1
        rw [if_neg (show ¬ bI true = 0 by decide), Bool.true_and, aO_1 w, r_1_2 w, aO_23 w, aO_1 w, e1, e3.oP w, S7_or3 w e3 hk hp, cI_some, e13, nI_sub1 (by omega), nI_add]
        by_cases c : H - 1 + rn P k ≤ 40
        · rw [decide_eq_true c, if_neg (show ¬ (40 : Int32) < nI (H - 1 + rn P k) by rw [show (40 : Int32) = nI 40 from rfl, c_lt (by omega) (by omega)]; omega)]
          rfl
        · rw [decide_eq_false c, if_pos (show (40 : Int32) < nI (H - 1 + rn P k) by rw [show (40 : Int32) = nI 40 from rfl, c_lt (by omega) (by omega)]; omega)]
          rfl
    · rw [decide_eq_false c0, Bool.false_and, Bool.false_and, if_pos (show bI false = 0 from rfl)]
      rfl
theorem S11_canStep0 {M : MM} (h : CoC M P o nw) {x : Int32} (hx : ibx (pR P) x = false) : f11_canStep M 1 x = some (0, M) := by
  have w := h.1
  have hp := h.2.1
  obtain ⟨a1, e1, e3⟩ := h.pr
  have fo : ∀ p g : Int32, ∀ y : Int32, f7_isFor M a1 x p g y = some (0, M) := fun p g y => by
    unfold f7_isFor f7_isIn
    rw [e3.oP w, e3.oP w, S7_hasRule w e3, cI_some, hx, if_pos (show bI false = 0 from rfl), cI_some, if_pos rfl]
  have ap : f7_applies M a1 x 23 (mI M 1 12) = some (0, M) := by
    unfold f7_applies
    rw [aO_23 w]
    cases nw with
    | none =>
      have e : mI M 23 3 = 0 := h.2.2.2.2.2.1.2.2
      rw [e, if_pos (by decide)]
    | some q =>
      obtain ⟨p, H, s⟩ := q
      have pl : PlC M 23 p H s := h.2.2.2.2.2.1
      have wn := h.2.2.2.2.2.2
      have H40 : H ≤ 40 := wn.2.1
      have e13 : mI M 23 3 = nI H := pl.2.2.2.1
      rw [e13]
      simp only [c_le0 (show H < 2 ^ 31 by omega)]
      by_cases c : H = 0
      · rw [if_pos c]
      · rw [if_neg c, aO_23 w, aO_23 w, lit_0, S6_top w pl (by omega), cI_some, e3.oP w, fo, cI_some, if_pos (show (0 : Int32) = nI 0 from rfl)]
  unfold f11_canStep
  rw [aO_1 w, aO_1 w, aO_1 w, e1, e3.oP w, r_1_2 w, ap, cI_some, if_pos rfl]
theorem L11_can4 {M : MM} (h : CoC M P o nw) : ∀ (d i : Nat), i + d = pR P → ∀ f, d < f → LP4 f11_can_b4_body f M 1 (nI (bsN (canB P o nw) i)) (nI i) = some (nI (canN P o nw), M)
  | 0, i, hi, f + 1, _ => by
    have w := h.1
    have r14 := h.2.1.2.2.1
    obtain ⟨a1, e1, e3⟩ := h.pr
    have e : i = pR P := by omega
    rw [e, LP4_s]
    generalize LP4 f11_can_b4_body f = K
    unfold f11_can_b4_body
    rw [aO_1 w, e1, e3.oP w, e3.2.2.2.1, if_pos (nI_le (Nat.le_refl _) (by omega))]
    rfl
  | d + 1, i, hi, f + 1, hf => by
    have w := h.1
    have r14 := h.2.1.2.2.1
    obtain ⟨a1, e1, e3⟩ := h.pr
    have ih := L11_can4 h d (i + 1) (by omega) f (by omega)
    rw [← ih, LP4_s]
    generalize LP4 f11_can_b4_body f = K
    unfold f11_can_b4_body f11_can_b29
    have e : bsN (canB P o nw) (i + 1) = bsN (canB P o nw) i ||| (if canB P o nw i = true then 2 ^ i else 0) := rfl
    rw [aO_1 w, e1, e3.oP w, e3.2.2.2.1, if_neg (nI_ge (by omega) (by omega)), aO_1 w, S11_canStep h (by omega), cI_some, e]
    by_cases c : canB P o nw i = true
    · rw [c, if_neg (show ¬ bI true = 0 by decide), if_pos rfl, shl_nI (by omega), nI_or, bW_e, nI_1]
    · rw [Bool.not_eq_true] at c
      rw [c, if_pos (show bI false = 0 from rfl), if_neg (by decide), Nat.or_zero, nI_1]
theorem S11_can {M : MM} (h : CoC M P o nw) : f11_can M 1 = some (nI (canN P o nw), M) := L11_can4 h (pR P) 0 (by omega) FU (FU_big (by have := h.2.1.2.2.1; omega))
theorem S11_stepTo {M : MM} (h : CoC M P o nw) {k : Nat} (hk : k < pR P) (hc : canB P o nw k = true) : ∃ M', f6_stepBy M 23 (mR M 1 10) (nI k) = some M' ∧ Sm [23, 25] [] M M' ∧ CoC M' P o (stpN P k nw) ∧ mI M' 23 3 = nI (hgt (stpN P k nw)) := by
  have w := h.1
  have hp := h.2.1
  obtain ⟨a1, e1, e3⟩ := h.pr
  cases nw with
  | none => cases hc
  | some q =>
    obtain ⟨p, H, s⟩ := q
    have c : (decide (0 < H) && (rfor P o k p (s (H - 1)) && decide (H - 1 + rn P k ≤ 40))) = true := hc
    rw [Bool.and_eq_true, Bool.and_eq_true, decide_eq_true_eq, decide_eq_true_eq] at c
    have pl : PlC M 23 p H s := h.2.2.2.2.2.1
    have eH : H - 1 + 1 = H := by omega
    obtain ⟨M', b1, b2, b3⟩ := S6_stepBy hp hk w e3 (p := p) (H := H - 1) (s := s) (b := 23) (by rw [eH]; exact pl) (show H - 1 + rn P k ≤ 40 from c.2.2)
    have wn := stpN_WN hp hk h.2.2.2.2.2.2 hc
    refine ⟨M', by rw [e1]; exact b1, b3, h.outs b3 (by rw [b3.i 1 (by decide)]; exact h.2.2.2.2.1) h.2.2.1 b2 wn (by decide), b2.2.2.2.1⟩
theorem S11_step {M : MM} {n : Nat} {A : Nat → NW × Nat} (h : CoC M P o nw) (ha : ActC M n A) (hA : ActW P n A) (x : Int32) : ∃ M' r, f11_step M 1 x = some (r, M') ∧ (ibx (pR P) x = false → r = -1 ∧ M' = M) ∧ ∀ k, k < pR P → x = nI k → (canB P o nw k = false → r = -1 ∧ M' = M) ∧ (canB P o nw k = true → r = nI (hgt (stpN P k nw)) ∧ Sm [23, 25, 29, 31] [] M M' ∧ CoC M' P o (stpN P k nw) ∧ ActC M' (kpN n) (kpA n A (nw, o))) := by
  have w := h.1
  have hp := h.2.1
  have r14 := hp.2.2.1
  unfold f11_step
  rw [aO_1 w]
  by_cases c : ibx (pR P) x = true
  · obtain ⟨k, hk, rfl⟩ := ibx_out c (by omega)
    rw [S11_canStep h hk, cI_some]
    by_cases c2 : canB P o nw k = true
    · obtain ⟨M1, b1, b2, b3⟩ := S0_keep (o := o) w h.2.2.2.2.2.1 h.2.2.2.2.2.2 ha hA
      have h1 : CoC M1 P o nw := h.sm b2 (by rw [b2.i 1 (by decide)]) (by decide)
      have w1 := h1.1
      obtain ⟨M2, d1, d2, d3, d4⟩ := S11_stepTo h1 hk c2
      have w2 := d3.1
      rw [c2, if_neg (show ¬ bI true = 0 by decide), aO_1 w, aO_1 w, aO_1 w, r_1_4 w, aO_29 w, r_1_2 w, h.2.2.2.2.1, b1, cV_some, aO_1 w1, aO_1 w1, r_1_2 w1, aO_23 w1, d1, cV_some, aO_1 w2, r_1_2 w2, aO_23 w2, d4]
      refine ⟨M2, _, rfl, (fun z => by rw [c] at z; cases z), fun k' hk' e => ?_⟩
      rw [nI_eq (by omega) (by omega)] at e
      rw [← e]
      exact ⟨(fun z => by rw [c2] at z; cases z), fun _ => ⟨rfl, (b2.more (by decide) (by decide)).trans (d2.more (by decide) (by decide)), d3, b3.sm d2 (by decide)⟩⟩
    · rw [Bool.not_eq_true] at c2
      rw [c2, if_pos (show bI false = 0 from rfl)]
      refine ⟨M, -1, rfl, fun _ => ⟨rfl, rfl⟩, fun k' hk' e => ?_⟩
      rw [nI_eq (by omega) (by omega)] at e
      rw [← e]
      exact ⟨fun _ => ⟨rfl, rfl⟩, (fun z => by rw [c2] at z; cases z)⟩
  · rw [Bool.not_eq_true] at c
    rw [S11_canStep0 h c, cI_some, if_pos rfl]
    refine ⟨M, -1, rfl, fun _ => ⟨rfl, rfl⟩, fun k hk e => ?_⟩
    rw [e, ibx_nI (by omega) (by omega), decide_eq_true hk] at c
    cases c
/-! the reference -/
theorem LM_atc {M : MM} (h : CoM M P o nw) : ∀ (d i : Nat), i + d = pR P → ∀ f, d < f → LP4 f12_allThatCan_b4_body f M 86 (nI (bsN (canB P o nw) i)) (nI i) = some (nI (canN P o nw), M)
  | 0, i, hi, f + 1, _ => by
    have w := h.1
    have r14 := h.2.1.2.2.1
    have e : i = pR P := by omega
    rw [e, LP4_s]
    generalize LP4 f12_allThatCan_b4_body f = K
    unfold f12_allThatCan_b4_body
    rw [aO_86 w, r_86_1 w, lit_2, aA_87 w (by omega), nI_clamp (by omega), h.2.2.2.1.2.2.2.1, if_pos (nI_le (Nat.le_refl _) (by omega))]
    rfl
  | d + 1, i, hi, f + 1, hf => by
    have w := h.1
    have hp := h.2.1
    have p5 := hp.1
    have g6 := hp.2.1
    have r14 := hp.2.2.1
    have ho := h.2.2.1
    have pg := h.2.2.2.1
    have ih := LM_atc h d (i + 1) (by omega) f (by omega)
    have e : bsN (canB P o nw) (i + 1) = bsN (canB P o nw) i ||| (if canB P o nw i = true then 2 ^ i else 0) := rfl
    cases nw with
    | none =>
      have z : ∀ k, bsN (canB P o none) k = 0 := fun k => Nat.eq_of_testBit_eq (fun y => by
        rw [bsN_bit, Nat.zero_testBit]
        exact Bool.and_false _)
      have e19 : mI M 86 19 = 0 := h.2.2.2.2.1
      rw [LP4_s]
      generalize LP4 f12_allThatCan_b4_body f = K
      unfold f12_allThatCan_b4_body
      rw [aO_86 w, r_86_1 w, lit_2, aA_87 w (by omega), nI_clamp (by omega), pg.2.2.2.1, if_neg (nI_ge (by omega) (by omega)), aO_86 w, if_pos e19]
      unfold canN
      rw [z, z]
    | some q =>
      obtain ⟨p, H, s⟩ := q
      obtain ⟨e19, e20, e21, e92⟩ := h.2.2.2.2.1
      have wn := h.2.2.2.2.2.1
      have p1 : p < pS P := wn.1
      have H40 : H ≤ 40 := wn.2.1
      have n2 := hp.n2 (show i < pR P by omega)
      have cb : canB P o (some (p, H, s)) i = (decide (0 < H) && (rfor P o i p (s (H - 1)) && decide (H - 1 + rn P i ≤ 40))) := rfl
      have e21' : mI M 86 21 = nI H := e21
      have e20' : mI M 86 20 = nI p := e20
      by_cases c0 : 0 < H
      · have hs : s (H - 1) < 6 := Nat.lt_of_lt_of_le (wn.2.2 (H - 1) (show H - 1 < H by omega)) g6
        have e92' : mI M 92 (H - 1) = nI (s (H - 1)) := e92 (H - 1) (show H - 1 < H by omega)
        rw [← ih, LP4_s]
        generalize LP4 f12_allThatCan_b4_body f = K
        unfold f12_allThatCan_b4_body f12_allThatCan_b76 f12_allThatCan_b77
        rw [aO_86 w, r_86_1 w, lit_2, aA_87 w (by omega), nI_clamp (by omega), pg.2.2.2.1, if_neg (nI_ge (by omega) (by omega)), aO_86 w, if_neg (by rw [e19]; decide), aO_86 w, e21', if_neg (show ¬ nI H ≤ 0 by rw [show (0 : Int32) = nI 0 from rfl]; exact nI_ge c0 (by omega)), aO_86 w, aO_86 w, aO_86 w, r_86_17 w, nI_sub1 (by omega), aA_92 w (by omega), aO_86 w, e20', nI_clamp (by omega), e92', SM_isHeadOf w pg hp (by omega) (by omega) (by omega) (by omega), cI_some, e, cb, decide_eq_true c0, Bool.true_and]
        cases rfor P o i p (s (H - 1)) with
        | false =>
          rw [if_pos (show bI false = 0 from rfl), Bool.false_and, if_neg (by decide), Nat.or_zero, show (0 : Int32) = nI 0 from rfl, nI_or, Nat.or_zero, bW_e, nI_1]
        | true =>
          rw [if_neg (show ¬ bI true = 0 by decide), Bool.true_and, aO_86 w, aO_86 w, SM_r3 w pg hp (by omega), cI_some, e21', nI_sub1 (by omega), nI_add]
          by_cases c : H - 1 + rn P i ≤ 40
          · rw [decide_eq_true c, if_pos rfl, if_neg (show ¬ (40 : Int32) < nI (H - 1 + rn P i) by rw [show (40 : Int32) = nI 40 from rfl, c_lt (by omega) (by omega)]; omega), shl_nI (by omega), nI_or, bW_e, nI_1]
          · rw [decide_eq_false c, if_pos (show (40 : Int32) < nI (H - 1 + rn P i) by rw [show (40 : Int32) = nI 40 from rfl, c_lt (by omega) (by omega)]; omega), if_neg (by decide), Nat.or_zero, show (0 : Int32) = nI 0 from rfl, nI_or, Nat.or_zero, bW_e, nI_1]
      · have z : ∀ k, bsN (canB P o (some (p, H, s))) k = 0 := fun k => Nat.eq_of_testBit_eq (fun y => by
          rw [bsN_bit, Nat.zero_testBit]
          show (_ && (decide (0 < H) && _)) = false
          rw [decide_eq_false c0, Bool.false_and, Bool.and_false])
        rw [LP4_s]
        generalize LP4 f12_allThatCan_b4_body f = K
        unfold f12_allThatCan_b4_body
        rw [aO_86 w, r_86_1 w, lit_2, aA_87 w (by omega), nI_clamp (by omega), pg.2.2.2.1, if_neg (nI_ge (by omega) (by omega)), aO_86 w, if_neg (by rw [e19]; decide), aO_86 w, e21', if_pos (show nI H ≤ 0 by rw [show H = 0 by omega]; decide)]
        unfold canN
        rw [z, z]
theorem SM_allThatCan {M : MM} (h : CoM M P o nw) : f12_allThatCan M 86 = some (nI (canN P o nw), M) := LM_atc h (pR P) 0 (by omega) FU (FU_big (by have := h.2.1.2.2.1; omega))
theorem SM_can {M : MM} (h : CoM M P o nw) : f12_can M 86 = some (nI (canN P o nw), sI M 86 0 0) := by
  have w := h.1
  have w0 : Wl (sI M 86 0 0) := w
  unfold f12_can
  rw [aO_86 w, bM_e, aO_86 w0, SM_allThatCan (h.th 0), cI_some]
end STEP
