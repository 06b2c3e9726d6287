/-! READING at the reference: words, names, faults -/
section GRAMM
variable {L : Nat} {B : Nat → Nat} {b : Nat} {Q : QG} {t : TK} {e : Nat × Nat}
def gF (j : Nat) : Prop := tF j ∧ j ≠ 15 ∧ j ≠ 16
def GrM (M M' : MM) : Prop := Sm [86, 87, 88, 89, 90] [] M M' ∧ (∀ j, gF j → mI M' 86 j = mI M 86 j) ∧ (∀ j, j < 4 → mI M' 87 j = mI M 87 j) ∧ (∀ j, j < 12 → mI M' 88 j = mI M 88 j) ∧ (∀ j, j < 98 → mI M' 89 j = mI M 89 j) ∧ ∀ j, j < 24 → mI M' 90 j = mI M 90 j
theorem GrM.rfl (M : MM) : GrM M M := ⟨Sm.rfl _ _ _, fun _ _ => Eq.refl _, fun _ _ => Eq.refl _, fun _ _ => Eq.refl _, fun _ _ => Eq.refl _, fun _ _ => Eq.refl _⟩
theorem GrM.trans {M M1 M2 : MM} (a : GrM M M1) (b : GrM M1 M2) : GrM M M2 := ⟨a.1.trans b.1, fun j h => (b.2.1 j h).trans (a.2.1 j h), fun j h => (b.2.2.1 j h).trans (a.2.2.1 j h), fun j h => (b.2.2.2.1 j h).trans (a.2.2.2.1 j h), fun j h => (b.2.2.2.2.1 j h).trans (a.2.2.2.2.1 j h), fun j h => (b.2.2.2.2.2 j h).trans (a.2.2.2.2.2 j h)⟩
theorem gr_86 {M M' : MM} (s : Sm [86] [] M M') (f : ∀ j, gF j → mI M' 86 j = mI M 86 j) : GrM M M' := ⟨s.more (by decide) (by decide), f, fun j _ => by rw [s.i 87 (by decide)], fun j _ => by rw [s.i 88 (by decide)], fun j _ => by rw [s.i 89 (by decide)], fun j _ => by rw [s.i 90 (by decide)]⟩
theorem gr_87 {M : MM} {i : Nat} (hi : 4 ≤ i) (v : Int32) : GrM M (uI M 87 (upx (mI M 87) i v)) := by
  have e : ∀ x, x ≠ 87 → mI (uI M 87 (upx (mI M 87) i v)) x = mI M x := fun x hx => by rw [mI_uI, if_neg hx]
  exact ⟨(Sm.rfl _ _ M).uI _ (by decide), fun j _ => by rw [e 86 (by decide)], fun j hj => by rw [mI_uI, if_pos rfl, upx_e, if_neg (by omega)], fun j _ => by rw [e 88 (by decide)], fun j _ => by rw [e 89 (by decide)], fun j _ => by rw [e 90 (by decide)]⟩
theorem gr_88 {M : MM} {i : Nat} (hi : 12 ≤ i) (v : Int32) : GrM M (uI M 88 (upx (mI M 88) i v)) := by
  have e : ∀ x, x ≠ 88 → mI (uI M 88 (upx (mI M 88) i v)) x = mI M x := fun x hx => by rw [mI_uI, if_neg hx]
  exact ⟨(Sm.rfl _ _ M).uI _ (by decide), fun j _ => by rw [e 86 (by decide)], fun j _ => by rw [e 87 (by decide)], fun j hj => by rw [mI_uI, if_pos rfl, upx_e, if_neg (by omega)], fun j _ => by rw [e 89 (by decide)], fun j _ => by rw [e 90 (by decide)]⟩
theorem gr_89 {M : MM} {i : Nat} (hi : 98 ≤ i) (v : Int32) : GrM M (uI M 89 (upx (mI M 89) i v)) := by
  have e : ∀ x, x ≠ 89 → mI (uI M 89 (upx (mI M 89) i v)) x = mI M x := fun x hx => by rw [mI_uI, if_neg hx]
  exact ⟨(Sm.rfl _ _ M).uI _ (by decide), fun j _ => by rw [e 86 (by decide)], fun j _ => by rw [e 87 (by decide)], fun j _ => by rw [e 88 (by decide)], fun j hj => by rw [mI_uI, if_pos rfl, upx_e, if_neg (by omega)], fun j _ => by rw [e 90 (by decide)]⟩
theorem gr_90 {M : MM} {i : Nat} (hi : 24 ≤ i) (v : Int32) : GrM M (uI M 90 (upx (mI M 90) i v)) := by
  have e : ∀ x, x ≠ 90 → mI (uI M 90 (upx (mI M 90) i v)) x = mI M x := fun x hx => by rw [mI_uI, if_neg hx]
  exact ⟨(Sm.rfl _ _ M).uI _ (by decide), fun j _ => by rw [e 86 (by decide)], fun j _ => by rw [e 87 (by decide)], fun j _ => by rw [e 88 (by decide)], fun j _ => by rw [e 89 (by decide)], fun j hj => by rw [mI_uI, if_pos rfl, upx_e, if_neg (by omega)]⟩
/-- a fault is told -/
def BdM (M : MM) (e : Nat × Nat) : Prop := Wl M ∧ mI M 86 15 = nI e.1 ∧ 0 < e.1 ∧ e.1 < 10 ∧ mI M 86 16 = nI e.2
theorem BdM.u {M : MM} (h : BdM M e) {x : Nat} (hx : x ≠ 86) (r : Nat → Int32) : BdM (uI M x r) e := by
  have i : mI (uI M x r) 86 = mI M 86 := by rw [mI_uI, if_neg (fun z => hx z.symm)]
  exact ⟨h.1, by rw [i]; exact h.2.1, h.2.2.1, h.2.2.2.1, by rw [i]; exact h.2.2.2.2⟩
def PnB (M : MM) (b : Nat) (Q : QG) : Prop := b < 2 ∧ mI M 87 (4 * b) = nI (pS Q.1) ∧ mI M 87 (4 * b + 1) = nI (pG Q.1) ∧ mI M 87 (4 * b + 2) = nI (pR Q.1) ∧ mI M 87 (4 * b + 3) = nI (pK Q.1) ∧ (∀ p, p < pS Q.1 → mI M 88 (12 * b + p) = nI (c5 (Q.2.1 p))) ∧ (∀ g, g < pG Q.1 → mI M 88 (12 * b + 6 + g) = nI (c5 (Q.2.2 g))) ∧ (∀ r, r < pR Q.1 → ∀ c, c < 7 → mI M 89 (98 * b + (7 * r + c)) = clR Q.1 r c) ∧ ∀ k, k < pK Q.1 → ∀ c, c < 3 + kn Q.1 k → mI M 90 (24 * b + (6 * k + c)) = nI (Q.1.2.2 k c)
def TsM (M : MM) (b : Nat) (L : Nat) (B : Nat → Nat) (Q : QG) (t : TK) : Prop := Wl M ∧ TpM M L B ∧ TkM M t ∧ TkG L t ∧ mI M 86 15 = 0 ∧ PnB M b Q ∧ WQ Q
theorem PnB.sm {M M' : MM} (h : PnB M b Q) {Is Js : List Nat} (s : Sm Is Js M M') (hi : avd [87, 88, 89, 90] Is = true) : PnB M' b Q := by
  unfold PnB at *
  rw [s.i 87 (avd_n hi (by decide)), s.i 88 (avd_n hi (by decide)), s.i 89 (avd_n hi (by decide)), s.i 90 (avd_n hi (by decide))]
  exact h
theorem b_isGood {M : MM} (h : BdM M e) : f12_isGood M 86 = some (0, M) := by
  unfold f12_isGood
  rw [aO_86 h.1, h.2.1, if_neg (by rw [c_eq0 (by have := h.2.2.2.1; omega)]; have := h.2.2.1; omega)]
theorem g_isGood {M : MM} (h : TsM M b L B Q t) : f12_isGood M 86 = some (1, M) := by
  unfold f12_isGood
  rw [aO_86 h.1, h.2.2.2.2.1, if_pos rfl]
theorem b_goOn {M : MM} (h : BdM M e) : f12_goOn M 86 = some M := by
  unfold f12_goOn
  rw [aO_86 h.1, b_isGood h, cI_some, if_pos rfl]
theorem b_oneOf {M : MM} (h : BdM M e) (x y : Int32) : f12_oneOf M 86 x y = some (0, M) := by
  unfold f12_oneOf
  rw [aO_86 h.1, b_isGood h, cI_some, if_pos rfl]
theorem TsM.take {M : MM} (h : TsM M b L B Q t) : ∃ M', f12_nextToken M 86 = some M' ∧ GrM M M' ∧ TsM M' b L B Q (nxt L B t) ∧ Sm [86] [] M M' := by
  obtain ⟨w, tp, tk, g, h15, pn, wq⟩ := h
  obtain ⟨M', k1, k2, k3, k4⟩ := SM_nextToken w tp g.1 tk.1
  exact ⟨M', k1, gr_86 k2 (fun j hj => k3 j hj.1), ⟨w.sm k2, tp.sm k2 (k3 8 (by unfold tF; omega)) (by decide), k4, g.nx, (k3 15 (by unfold tF; omega)).trans h15, pn.sm k2 (by decide), wq⟩, k2⟩
theorem g_goOn {M : MM} (h : TsM M b L B Q t) : ∃ M', f12_goOn M 86 = some M' ∧ GrM M M' ∧ TsM M' b L B Q (nxt L B t) ∧ Sm [86] [] M M' := by
  obtain ⟨M', k1, k2, k3, k4⟩ := h.take
  refine ⟨M', ?_, k2, k3, k4⟩
  unfold f12_goOn
  rw [aO_86 h.1, g_isGood h, cI_some, if_neg (by decide), aO_86 h.1, k1, cV_some]
theorem g_fails {M : MM} (h : TsM M b L B Q t) {k : Nat} (h0 : 0 < k) (hk : k < 10) : ∃ M', f12_fails M 86 (nI k) = some M' ∧ GrM M M' ∧ BdM M' (if tkK t = 1 then 1 else k, tkP t) ∧ Sm [86] [] M M' := by
  obtain ⟨w, tp, tk, g, h15, pn, wq⟩ := h
  have k4 := g.2.2.2.1
  have fin : ∀ j : Nat, 0 < j → j < 10 → ∃ M', f12_fails_b21 M 86 (nI j) 86 = some M' ∧ GrM M M' ∧ BdM M' (j, tkP t) ∧ Sm [86] [] M M' := fun j j0 j1 => by
    have w1 : Wl (sI M 86 15 (nI j)) := w
    have e9 : mI (sI M 86 15 (nI j)) 86 9 = nI (tkP t) := by rw [mI_sI, if_neg (by decide)]; exact tk.2.2.1
    have s : Sm [86] [] M (sI (sI M 86 15 (nI j)) 86 16 (nI (tkP t))) := by rw [sI_e, sI_e]; exact ((Sm.rfl _ _ M).uI _ (by decide)).uI _ (by decide)
    refine ⟨sI (sI M 86 15 (nI j)) 86 16 (nI (tkP t)), ?_, gr_86 s (fun i hi => ?_), ⟨w, ?_, j0, j1, ?_⟩, s⟩
    · unfold f12_fails_b21
      rw [aO_86 w, bM_e, aO_86 w1, aO_86 w1, e9, bM_e]
    · rw [mI_sI, if_neg (fun z => hi.2.2 z.2), mI_sI, if_neg (fun z => hi.2.1 z.2)]
    · rw [mI_sI, if_neg (by decide), mI_sI, if_pos ⟨rfl, rfl⟩]
    · rw [mI_sI, if_pos ⟨rfl, rfl⟩]
  unfold f12_fails
  rw [aO_86 w, h15, if_pos rfl, aO_86 w, tk.2.1]
  by_cases c : tkK t = 1
  · rw [if_pos (show nI (kmm (tkK t)) = 4 by rw [c]; rfl), if_pos c]
    exact fin 1 (by omega) (by omega)
  · rw [if_neg (show ¬ nI (kmm (tkK t)) = 4 by
      rw [show (4 : Int32) = nI 4 from rfl]
      unfold kmm
      rw [if_neg c, nI_eq (by split <;> omega) (by omega)]
      split <;> omega), if_neg c]
    exact fin k h0 hk
theorem SM_isWordK {M : MM} (h : TsM M b L B Q t) {k : List Nat} (hk : k ∈ kws) : f12_isWord M 86 (nI (c5 k)) = some (bI (isW t k), M) := by
  obtain ⟨w, tp, tk, g, h15, pn, wq⟩ := h
  have k4 := g.2.2.2.1
  unfold f12_isWord isW
  rw [aO_86 w, tk.2.1]
  by_cases c : tkK t = 2
  · have v := g.2.2.2.2.1 c
    have l1 := v.c5
    have l2 := (kw_v hk).c5
    rw [if_pos (show nI (kmm (tkK t)) = 1 by rw [c]; rfl), aO_86 w, tk.2.2.2.1 c, decide_eq_true c, Bool.true_and]
    by_cases e : tkW t = k
    · rw [if_pos (by rw [e]), decide_eq_true e]
      rfl
    · rw [if_neg (fun z => e (c5_inj v.1 (kw_v hk).1 ((nI_eq (by omega) (by omega)).mp z))), decide_eq_false e]
      rfl
  · rw [if_neg (show ¬ nI (kmm (tkK t)) = 1 by
      rw [show (1 : Int32) = nI 1 from rfl]
      unfold kmm
      split
      · rw [nI_eq (by omega) (by omega)]; omega
      · split
        · rw [nI_eq (by omega) (by omega)]; omega
        · rw [nI_eq (by omega) (by omega)]; omega), decide_eq_false c, Bool.false_and]
    rfl
theorem isN_w {t : TK} : isN t = (decide (tkK t = 2) && !(isW t kwS || isW t kwG || isW t kwR || isW t kwL) && !(isW t kwT) && !(isW t kwC) && !(isW t kwM)) := by
  unfold isN isW
  show (decide (tkK t = 2) && !(decide (tkW t = kwS) || (decide (tkW t = kwG) || (decide (tkW t = kwR) || (decide (tkW t = kwL) || (decide (tkW t = kwT) || (decide (tkW t = kwC) || (decide (tkW t = kwM) || false)))))))) = _
  cases decide (tkK t = 2) <;> cases decide (tkW t = kwS) <;> cases decide (tkW t = kwG) <;> cases decide (tkW t = kwR) <;> cases decide (tkW t = kwL) <;> cases decide (tkW t = kwT) <;> cases decide (tkW t = kwC) <;> cases decide (tkW t = kwM) <;> rfl
theorem SM_isName {M : MM} (h : TsM M b L B Q t) : f12_isName M 86 = some (bI (isN t), M) := by
  have wS := SM_isWordK h (k := kwS) (by decide)
  have wG := SM_isWordK h (k := kwG) (by decide)
  have wR := SM_isWordK h (k := kwR) (by decide)
  have wL := SM_isWordK h (k := kwL) (by decide)
  have wT := SM_isWordK h (k := kwT) (by decide)
  have wC := SM_isWordK h (k := kwC) (by decide)
  have wM := SM_isWordK h (k := kwM) (by decide)
  have w := h.1
  have k4 := h.2.2.2.1.2.2.2.1
  have e11 : mI M 86 11 = nI (kmm (tkK t)) := h.2.2.1.2.1
  have is2 : (nI (kmm (tkK t)) = 1) ↔ tkK t = 2 := by
    rw [show (1 : Int32) = nI 1 from rfl]
    unfold kmm
    split
    · rw [nI_eq (by omega) (by omega)]; omega
    · split
      · rw [nI_eq (by omega) (by omega)]; omega
      · rw [nI_eq (by omega) (by omega)]; omega
  have b41 : ∀ s0 : Bool, f12_isName_b41 M 86 (bI s0) = some (bI (decide (tkK t = 2) && !s0 && !(isW t kwT) && !(isW t kwC) && !(isW t kwM)), M) := fun s0 => by
    unfold f12_isName_b41
    rw [aO_86 w, e11]
    by_cases c : tkK t = 2
    · rw [if_pos (is2.mpr c), decide_eq_true c, Bool.true_and]
      cases s0 with
      | true => rw [if_neg (show ¬ bI true = 0 by decide)]; rfl
      | false =>
        rw [if_pos (show bI false = 0 from rfl), aO_86 w, show (655 : Int32) = nI (c5 kwT) from rfl, wT, cI_some]
        cases isW t kwT with
        | true => rw [if_neg (show ¬ bI true = 0 by decide)]; rfl
        | false =>
          rw [if_pos (show bI false = 0 from rfl), aO_86 w, show (114292 : Int32) = nI (c5 kwC) from rfl, wC, cI_some]
          cases isW t kwC with
          | true => rw [if_neg (show ¬ bI true = 0 by decide)]; rfl
          | false =>
            rw [if_pos (show bI false = 0 from rfl), aO_86 w, show (441925 : Int32) = nI (c5 kwM) from rfl, wM, cI_some]
            cases isW t kwM with
            | true => rw [if_neg (show ¬ bI true = 0 by decide)]; rfl
            | false => rw [if_pos (show bI false = 0 from rfl)]; rfl
    · rw [if_neg (fun z => c (is2.mp z)), decide_eq_false c]
      rfl
  have t1 : f12_isName_b41 M 86 1 = _ := b41 true
  have t0 : f12_isName_b41 M 86 0 = _ := b41 false
  unfold f12_isName f12_isName_b36
  rw [isN_w, aO_86 w, show (20579973 : Int32) = nI (c5 kwS) from rfl, wS, cI_some]
  cases isW t kwS with
  | true => rw [if_neg (show ¬ bI true = 0 by decide), t1]; rfl
  | false =>
    rw [if_pos (show bI false = 0 from rfl), aO_86 w, show (632046 : Int32) = nI (c5 kwG) from rfl, wG, cI_some]
    cases isW t kwG with
    | true => rw [if_neg (show ¬ bI true = 0 by decide), t1]; rfl
    | false =>
      rw [if_pos (show bI false = 0 from rfl), aO_86 w, show (611717 : Int32) = nI (c5 kwR) from rfl, wR, cI_some]
      cases isW t kwR with
      | true => rw [if_neg (show ¬ bI true = 0 by decide), t1]; rfl
      | false =>
        rw [if_pos (show bI false = 0 from rfl), aO_86 w, show (244780 : Int32) = nI (c5 kwL) from rfl, wL, cI_some]
        cases isW t kwL with
        | true => rw [if_neg (show ¬ bI true = 0 by decide), t1]; rfl
        | false => rw [if_pos (show bI false = 0 from rfl), t0]; rfl
end GRAMM
