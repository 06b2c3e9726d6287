/-! READING at the reference: programs -/
section PROGM
variable {L : Nat} {B : Nat → Nat} {Q : QG} {t : TK} {e : Nat × Nat}
theorem isW_2 {k : List Nat} (h : isW t k = true) : tkK t = 2 := by
  unfold isW at h
  rw [Bool.and_eq_true, decide_eq_true_eq] at h
  exact h.1
theorem g_isFull {M : MM} (h : TsM M 1 L B Q t) {s n room : Nat} (hs : s < 4) (h1 : mI M 87 (4 + s) = nI n) (hn : n ≤ room) (hr : room < 100) (k2 : tkK t = 2) : (room ≤ n ∧ ∃ M', f12_isFull M 86 (nI s) (nI room) = some (1, M') ∧ GrM M M' ∧ BdM M' (5, tkP t)) ∨ (n < room ∧ f12_isFull M 86 (nI s) (nI room) = some (0, M)) := by
  have w := h.1
  unfold f12_isFull f12_isFull_b17
  rw [aO_86 w, r_86_1 w, show (4 : Int32) = nI 4 from rfl, nI_add, aA_87 w (by omega), nI_clamp (by omega), h1]
  by_cases c : n = room
  · obtain ⟨M', a1, a2, a3, a4⟩ := g_fails h (k := 5) (by omega) (by omega)
    rw [if_neg (by omega)] at a3
    refine .inl ⟨by omega, M', ?_, a2, a3⟩
    rw [if_pos (by rw [c]), aO_86 w, show (5 : Int32) = nI 5 from rfl, a1, cV_some, aO_86 a3.1, b_isGood a3, cI_some, if_pos rfl]
  · refine .inr ⟨by omega, ?_⟩
    rw [if_neg (fun z => c ((nI_eq (by omega) (by omega)).mp z)), aO_86 w, g_isGood h, cI_some, if_neg (by decide)]
theorem SM_readLine {M : MM} (h : TsM M 1 L B Q t) : LnM (f12_readLine M 86) M L B (lineA L B Q t) := by
  obtain ⟨w, tp, tk, g, h15, ⟨b2, p1, p2, p3, p4, p5, p6, p7, p8⟩, wq⟩ := id h
  have s5 := wq.1.1
  have g6 := wq.1.2.1
  have r14 := wq.1.2.2.1
  have k4 := wq.1.2.2.2.1
  unfold f12_readLine
  rw [aO_86 w, show (20579973 : Int32) = nI (c5 kwS) from rfl, SM_isWordK h (by decide), cI_some]
  by_cases c1 : isW t kwS = true
  · have el : lineA L B Q t = stateA L B Q t := by unfold lineA; rw [if_pos c1]
    rw [el, c1, if_neg (show ¬ bI true = 0 by decide), aO_86 w]
    rcases g_isFull h (s := 0) (n := pS Q.1) (room := 5) (by omega) p1 s5 (by omega) (isW_2 c1) with ⟨q, M', x1, x2, x3⟩ | ⟨q, x1⟩
    · have x1' : f12_isFull M 86 0 5 = some (1, M') := x1
      rw [x1', cI_some, if_neg (by decide), b_109 x3]
      exact .inl ⟨_, M', by unfold stateA; rw [if_pos q], rfl, x2, x3⟩
    · have x1' : f12_isFull M 86 0 5 = some (0, M) := x1
      have en : stateA L B Q t = nameA L B Q 0 t := by unfold stateA; rw [if_neg (by omega)]; rfl
      rw [x1', cI_some, if_pos rfl, aO_86 w, en]
      exact SM_newName h (s := 0) (by omega) q
  · have c1' := c1
    rw [Bool.not_eq_true] at c1'
    rw [c1', if_pos (show bI false = 0 from rfl), aO_86 w, show (632046 : Int32) = nI (c5 kwG) from rfl, SM_isWordK h (by decide), cI_some]
    by_cases c2 : isW t kwG = true
    · have el : lineA L B Q t = signA L B Q t := by unfold lineA; rw [if_neg c1, if_pos c2]
      rw [el, c2, if_neg (show ¬ bI true = 0 by decide), aO_86 w]
      rcases g_isFull h (s := 1) (n := pG Q.1) (room := 6) (by omega) p2 g6 (by omega) (isW_2 c2) with ⟨q, M', x1, x2, x3⟩ | ⟨q, x1⟩
      · have x1' : f12_isFull M 86 1 6 = some (1, M') := x1
        rw [x1', cI_some, if_neg (by decide), b_109 x3]
        exact .inl ⟨_, M', by unfold signA; rw [if_pos q], rfl, x2, x3⟩
      · have x1' : f12_isFull M 86 1 6 = some (0, M) := x1
        have en : signA L B Q t = nameA L B Q 1 t := by unfold signA; rw [if_neg (by omega)]; rfl
        rw [x1', cI_some, if_pos rfl, aO_86 w, en]
        exact SM_newName h (s := 1) (by omega) q
    · have c2' := c2
      rw [Bool.not_eq_true] at c2'
      rw [c2', if_pos (show bI false = 0 from rfl), aO_86 w, show (611717 : Int32) = nI (c5 kwR) from rfl, SM_isWordK h (by decide), cI_some]
      by_cases c3 : isW t kwR = true
      · have el : lineA L B Q t = ruleA L B Q t := by unfold lineA; rw [if_neg c1, if_neg c2, if_pos c3]
        rw [el, c3, if_neg (show ¬ bI true = 0 by decide), aO_86 w]
        rcases g_isFull h (s := 2) (n := pR Q.1) (room := 14) (by omega) p3 r14 (by omega) (isW_2 c3) with ⟨q, M', x1, x2, x3⟩ | ⟨q, x1⟩
        · have x1' : f12_isFull M 86 2 14 = some (1, M') := x1
          rw [x1', cI_some, if_neg (by decide), b_109 x3]
          exact .inl ⟨_, M', by unfold ruleA; rw [if_pos q], rfl, x2, x3⟩
        · have x1' : f12_isFull M 86 2 14 = some (0, M) := x1
          rw [x1', cI_some, if_pos rfl, aO_86 w]
          exact SM_newRule h q
      · have c3' := c3
        rw [Bool.not_eq_true] at c3'
        rw [c3', if_pos (show bI false = 0 from rfl), aO_86 w, show (244780 : Int32) = nI (c5 kwL) from rfl, SM_isWordK h (by decide), cI_some]
        by_cases c4 : isW t kwL = true
        · have el : lineA L B Q t = goalA L B Q t := by unfold lineA; rw [if_neg c1, if_neg c2, if_neg c3, if_pos c4]
          rw [el, c4, if_neg (show ¬ bI true = 0 by decide), aO_86 w]
          rcases g_isFull h (s := 3) (n := pK Q.1) (room := 4) (by omega) p4 k4 (by omega) (isW_2 c4) with ⟨q, M', x1, x2, x3⟩ | ⟨q, x1⟩
          · have x1' : f12_isFull M 86 3 4 = some (1, M') := x1
            rw [x1', cI_some, if_neg (by decide), b_109 x3]
            exact .inl ⟨_, M', by unfold goalA; rw [if_pos q], rfl, x2, x3⟩
          · have x1' : f12_isFull M 86 3 4 = some (0, M) := x1
            rw [x1', cI_some, if_pos rfl, aO_86 w]
            exact SM_newGoal h q
        · have el : lineA L B Q t = .inl (refA t) := by unfold lineA; rw [if_neg c1, if_neg c2, if_neg c3, if_neg c4]
          obtain ⟨M', a1, a2, a3, a4⟩ := g_fails h (k := 2) (by omega) (by omega)
          rw [Bool.not_eq_true] at c4
          rw [el, c4, if_pos (show bI false = 0 from rfl), aO_86 w, show (2 : Int32) = nI 2 from rfl, a1, cV_some, b_109 a3]
          exact .inl ⟨_, M', rfl, rfl, a2, a3⟩
theorem LM_sy30 : ∀ (m n : Nat), n + m = 801 → ∀ f, m + 1 < f → ∀ M Q t, TsM M 1 L B Q t → n ≤ tkP t → (∃ e M', progA L B m Q t = .inl e ∧ LP2 f12_system_b30_body f M 86 = f12_system_b51 M' 86 ∧ GrM M M' ∧ BdM M' e) ∨ (∃ Q' t' M', progA L B m Q t = .inr Q' ∧ LP2 f12_system_b30_body f M 86 = f12_system_b51 M' 86 ∧ GrM M M' ∧ TsM M' 1 L B Q' t')
  | m, n, hn, 0, hf, _, _, _, _, _ => absurd hf (Nat.not_lt_zero _)
  | 0, n, hn, f + 1, hf, M, Q, t, h, hp => by
    have g := h.2.2.2.1
    have := h.2.1.2.1
    have := g.1
    have := g.2.1
    omega
  | m + 1, n, hn, f + 1, hf, M, Q, t, h, hp => by
    obtain ⟨w, tp, tk, g, h15, pn, wq⟩ := id h
    have k4 := g.2.2.2.1
    have pa : progA L B (m + 1) Q t = if tkK t = 0 then .inr Q else match lineA L B Q t with | .inl e => .inl e | .inr (Q', t') => progA L B m Q' t' := rfl
    rw [pa]
    by_cases c : tkK t = 0
    · rw [if_pos c]
      refine .inr ⟨Q, t, M, rfl, ?_, GrM.rfl M, h⟩
      rw [LP2_s]
      generalize LP2 f12_system_b30_body f = K
      unfold f12_system_b30_body
      rw [aO_86 w, g_isGood h, cI_some, if_neg (by decide), aO_86 w, tk.2.1, if_pos ((kmm_0 t k4).mpr c)]
    · rw [if_neg c]
      have hd : ∀ M', f12_readLine M 86 = some M' → LP2 f12_system_b30_body (f + 1) M 86 = LP2 f12_system_b30_body f M' 86 := fun M' hM' => by
        rw [LP2_s]
        generalize LP2 f12_system_b30_body f = K
        unfold f12_system_b30_body
        rw [aO_86 w, g_isGood h, cI_some, if_neg (by decide), aO_86 w, tk.2.1, if_neg (fun z => c ((kmm_0 t k4).mp z)), aO_86 w, hM', cV_some]
      rcases SM_readLine h with ⟨e, M', x1, x2, x3, x4⟩ | ⟨Q', t', M', x1, x2, x3, x4⟩
      · refine .inl ⟨e, M', by simp only [x1], ?_, x3, x4⟩
        obtain ⟨f', hf'⟩ : ∃ f', f = f' + 1 := ⟨f - 1, by omega⟩
        rw [hd M' x2, hf', LP2_s]
        generalize LP2 f12_system_b30_body f' = K
        unfold f12_system_b30_body
        rw [aO_86 x4.1, b_isGood x4, cI_some, if_pos rfl]
      · obtain ⟨y1, y2, y3⟩ := lineA_g wq g c x1
        rcases LM_sy30 m (n + 1) (by omega) f (by omega) M' Q' t' x4 (by omega) with ⟨e, M2, z1, z2, z3, z4⟩ | ⟨Q2, t2, M2, z1, z2, z3, z4⟩
        · exact .inl ⟨e, M2, by simp only [x1]; exact z1, (hd M' x2).trans z2, x3.trans z3, z4⟩
        · exact .inr ⟨Q2, t2, M2, by simp only [x1]; exact z1, (hd M' x2).trans z2, x3.trans z3, z4⟩
/-- the tape between calls -/
def TaM (M : MM) (L : Nat) (B : Nat → Nat) : Prop := mI M 86 7 = nI L ∧ L ≤ 800 ∧ ∀ i, i < L → mI M 91 i = nI (B i) ∧ B i < 256
def pF (j : Nat) : Prop := j ≠ 7 ∧ j ≠ 8 ∧ gF j
theorem SM_begins {M : MM} (w : Wl M) (ta : TaM M L B) {b : Nat} {Q : QG} (pn : PnB M b Q) (wq : WQ Q) : ∃ M', f12_begins M 86 = some M' ∧ Sm [86] [] M M' ∧ (∀ j, pF j → mI M' 86 j = mI M 86 j) ∧ mI M' 86 7 = 0 ∧ TsM M' b L B Q (tok L B 0) := by
  obtain ⟨M1, hM1⟩ : ∃ M1, M1 = sI (sI (sI (sI M 86 8 (nI L)) 86 7 0) 86 10 (nI 0)) 86 15 0 := ⟨_, rfl⟩
  have s1 : Sm [86] [] M M1 := by rw [hM1, sI_e, sI_e, sI_e, sI_e]; exact ((((Sm.rfl _ _ M).uI _ (by decide)).uI _ (by decide)).uI _ (by decide)).uI _ (by decide)
  have f1 : ∀ j, j ≠ 8 → j ≠ 7 → j ≠ 10 → j ≠ 15 → mI M1 86 j = mI M 86 j := fun j h1 h2 h3 h4 => by rw [hM1, mI_sI, if_neg (fun z => h4 z.2), mI_sI, if_neg (fun z => h3 z.2), mI_sI, if_neg (fun z => h2 z.2), mI_sI, if_neg (fun z => h1 z.2)]
  have g8 : mI M1 86 8 = nI L := by rw [hM1, mI_sI, if_neg (by decide), mI_sI, if_neg (by decide), mI_sI, if_neg (by decide), mI_sI, if_pos ⟨rfl, rfl⟩]
  have g7 : mI M1 86 7 = 0 := by rw [hM1, mI_sI, if_neg (by decide), mI_sI, if_neg (by decide), mI_sI, if_pos ⟨rfl, rfl⟩]
  have g10 : mI M1 86 10 = nI 0 := by rw [hM1, mI_sI, if_neg (by decide), mI_sI, if_pos ⟨rfl, rfl⟩]
  have g15 : mI M1 86 15 = 0 := by rw [hM1, mI_sI, if_pos ⟨rfl, rfl⟩]
  have w1 := w.sm s1
  have tp1 : TpM M1 L B := ⟨g8, ta.2.1, fun i hi => by rw [s1.i 91 (by decide)]; exact ta.2.2 i hi⟩
  obtain ⟨M2, k1, k2, k3, k4⟩ := SM_nextToken w1 tp1 (Nat.zero_le _) g10
  have s2 := s1.trans k2
  refine ⟨M2, ?_, s2, fun j hj => ?_, (k3 7 (by unfold tF; omega)).trans g7, w1.sm k2, tp1.sm k2 (k3 8 (by unfold tF; omega)) (by decide), k4, (tok_g (Nat.zero_le _)).1, (k3 15 (by unfold tF; omega)).trans g15, pn.sm s2 (by decide), wq⟩
  · have wa : Wl (sI M 86 8 (nI L)) := w
    have wb : Wl (sI (sI M 86 8 (nI L)) 86 7 0) := w
    have wc : Wl (sI (sI (sI M 86 8 (nI L)) 86 7 0) 86 10 (nI 0)) := w
    unfold f12_begins
    rw [aO_86 w, aO_86 w, ta.1, bM_e, aO_86 wa, bM_e, aO_86 wb, bM_e, show sI (sI (sI M 86 8 (nI L)) 86 7 0) 86 10 (0 : Int32) = sI (sI (sI M 86 8 (nI L)) 86 7 0) 86 10 (nI 0) from rfl, aO_86 wc, bM_e, ← hM1, aO_86 w1, k1, cV_some]
  · rw [k3 j hj.2.2.1, f1 j hj.2.1 hj.1 hj.2.2.1.2.1 hj.2.2.2.1]
theorem b_ends {M : MM} (h : BdM M e) : ∃ M', f12_ends M 86 = some (0, M') ∧ Sm [86] [] M M' ∧ (∀ j, j ≠ 13 → j ≠ 14 → mI M' 86 j = mI M 86 j) ∧ mI M' 86 13 = nI e.1 ∧ mI M' 86 14 = nI e.2 := by
  have w := h.1
  obtain ⟨M1, hM1⟩ : ∃ M1, M1 = sI M 86 13 (nI e.1) := ⟨_, rfl⟩
  have b1 : BdM M1 e := by
    rw [hM1]
    exact ⟨w, by rw [mI_sI, if_neg (by decide)]; exact h.2.1, h.2.2.1, h.2.2.2.1, by rw [mI_sI, if_neg (by decide)]; exact h.2.2.2.2⟩
  obtain ⟨M2, hM2⟩ : ∃ M2, M2 = sI M1 86 14 (nI e.2) := ⟨_, rfl⟩
  have b2 : BdM M2 e := by
    rw [hM2]
    exact ⟨b1.1, by rw [mI_sI, if_neg (by decide)]; exact b1.2.1, h.2.2.1, h.2.2.2.1, by rw [mI_sI, if_neg (by decide)]; exact b1.2.2.2.2⟩
  refine ⟨M2, ?_, by rw [hM2, hM1, sI_e, sI_e]; exact ((Sm.rfl _ _ M).uI _ (by decide)).uI _ (by decide), fun j h1 h2 => by rw [hM2, mI_sI, if_neg (fun z => h2 z.2), hM1, mI_sI, if_neg (fun z => h1 z.2)], by rw [hM2, mI_sI, if_neg (by decide), hM1, mI_sI, if_pos ⟨rfl, rfl⟩], by rw [hM2, mI_sI, if_pos ⟨rfl, rfl⟩]⟩
  unfold f12_ends f12_ends_b24
  rw [aO_86 w, aO_86 w, h.2.1, bM_e, ← hM1, aO_86 b1.1, b_isGood b1, cI_some, if_pos rfl, aO_86 b1.1, b1.2.2.2.2, aO_86 b1.1, bM_e, ← hM2, aO_86 b2.1, b_isGood b2, cI_some, gd_e (.inl rfl)]
theorem g_ends {M : MM} {b : Nat} (h : TsM M b L B Q t) : ∃ M', f12_ends M 86 = some (1, M') ∧ Sm [86] [] M M' ∧ (∀ j, j ≠ 13 → j ≠ 14 → mI M' 86 j = mI M 86 j) ∧ mI M' 86 13 = 0 ∧ mI M' 86 14 = -1 := by
  have w := h.1
  obtain ⟨M1, hM1⟩ : ∃ M1, M1 = sI M 86 13 0 := ⟨_, rfl⟩
  have w1 : Wl M1 := by rw [hM1]; exact w
  have e1 : mI M1 86 15 = 0 := by rw [hM1, mI_sI, if_neg (by decide)]; exact h.2.2.2.2.1
  obtain ⟨M2, hM2⟩ : ∃ M2, M2 = sI M1 86 14 (-1) := ⟨_, rfl⟩
  have w2 : Wl M2 := by rw [hM2]; exact w1
  have e2 : mI M2 86 15 = 0 := by rw [hM2, mI_sI, if_neg (by decide)]; exact e1
  refine ⟨M2, ?_, by rw [hM2, hM1, sI_e, sI_e]; exact ((Sm.rfl _ _ M).uI _ (by decide)).uI _ (by decide), fun j h1 h2 => by rw [hM2, mI_sI, if_neg (fun z => h2 z.2), hM1, mI_sI, if_neg (fun z => h1 z.2)], by rw [hM2, mI_sI, if_neg (by decide), hM1, mI_sI, if_pos ⟨rfl, rfl⟩], by rw [hM2, mI_sI, if_pos ⟨rfl, rfl⟩]⟩
  unfold f12_ends f12_ends_b24 f12_isGood
  rw [aO_86 w, aO_86 w, h.2.2.2.2.1, bM_e, ← hM1, aO_86 w1, aO_86 w1, e1, if_pos rfl, cI_some, if_neg (by decide), aO_86 w1, bM_e, ← hM2, aO_86 w2, aO_86 w2, e2, if_pos rfl, cI_some, gd_e (.inr rfl)]
end PROGM
