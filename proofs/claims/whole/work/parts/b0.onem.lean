/-! READING at the reference: names -/
section ONEM
variable {L : Nat} {B : Nat → Nat} {b : Nat} {Q : QG} {t : TK} {e : Nat × Nat}
/-- the names of a sort -/
def NmS (Q : QG) (s : Nat) : (Nat → List Nat) × Nat := if s = 0 then (Q.2.1, pS Q.1) else (Q.2.2, pG Q.1)
theorem TsM.nm {M : MM} (h : TsM M b L B Q t) {s : Nat} (hs : s < 2) : mI M 87 (4 * b + s) = nI (NmS Q s).2 ∧ (NmS Q s).2 ≤ 6 ∧ ∀ p, p < (NmS Q s).2 → mI M 88 (12 * b + 6 * s + p) = nI (c5 ((NmS Q s).1 p)) ∧ NmV ((NmS Q s).1 p) := by
  obtain ⟨w, tp, tk, g, h15, ⟨b2, p1, p2, p3, p4, p5, p6, p7, p8⟩, wq⟩ := h
  have s5 := wq.1.1
  have g6 := wq.1.2.1
  by_cases c : s = 0
  · unfold NmS
    rw [if_pos c, c, Nat.add_zero, Nat.mul_zero, Nat.add_zero]
    exact ⟨p1, by show pS Q.1 ≤ 6; omega, fun p hp => ⟨p5 p hp, wq.2.1 p hp⟩⟩
  · have c1 : s = 1 := by omega
    unfold NmS
    rw [if_neg c, c1, Nat.mul_one]
    exact ⟨p2, g6, fun p hp => ⟨p6 p hp, wq.2.2 p hp⟩⟩
theorem L12_ca2 {M : MM} (w : Wl M) {s n : Nat} {nm : Nat → List Nat} {v : List Nat} (hb : b < 2) (hs : s < 2) (h1 : mI M 87 (4 * b + s) = nI n) (hn : n ≤ 6) (h2 : ∀ p, p < n → mI M 88 (12 * b + 6 * s + p) = nI (c5 (nm p)) ∧ NmV (nm p)) (hv : NmV v) (h12 : mI M 86 12 = nI (c5 v)) : ∀ (d i : Nat), i + d = n → ∀ f, d < f → LP5 f12_called_b2_body f M 86 (nI b) (nI s) (nI i) = some (fNo (fnd nm v d i), M)
  | 0, i, hi, f + 1, _ => by
    rw [LP5_s]
    generalize LP5 f12_called_b2_body f = K
    unfold f12_called_b2_body
    rw [aO_86 w, r_86_1 w, show (4 : Int32) = nI 4 from rfl, nI_mulN, nI_add, aA_87 w (by omega), nI_clamp (by omega), h1, if_pos (nI_le (by omega) (by omega))]
    rfl
  | d + 1, i, hi, f + 1, hf => by
    have ih := L12_ca2 w hb hs h1 hn h2 hv h12 d (i + 1) (by omega) f (by omega)
    obtain ⟨a1, a2⟩ := h2 i (by omega)
    have l1 := hv.c5
    have l2 := a2.c5
    have st : fnd nm v (d + 1) i = if nm i = v then some i else fnd nm v d (i + 1) := rfl
    rw [st, LP5_s]
    generalize LP5 f12_called_b2_body f = K at ih ⊢
    unfold f12_called_b2_body
    rw [aO_86 w, r_86_1 w, show (4 : Int32) = nI 4 from rfl, nI_mulN, nI_add, aA_87 w (by omega), nI_clamp (by omega), h1, if_neg (nI_ge (by omega) (by omega)), aO_86 w, r_86_2 w, show (12 : Int32) = nI 12 from rfl, nI_mulN, show (6 : Int32) = nI 6 from rfl, nI_mulN, nI_add, nI_add, aA_88 w (by omega), aO_86 w, nI_clamp (by omega), a1, h12]
    by_cases c : nm i = v
    · rw [if_pos c, if_pos (by rw [c])]
      rfl
    · rw [if_neg c, if_neg (fun z => c (c5_inj a2.1 hv.1 ((nI_eq (by omega) (by omega)).mp z))), nI_1, ih]
theorem SM_called {M : MM} (h : TsM M b L B Q t) {s : Nat} (hs : s < 2) (c : isN t = true) : f12_called M 86 (nI b) (nI s) = some (fNo (fnd (NmS Q s).1 (tkW t) (NmS Q s).2 0), M) := by
  obtain ⟨n1, n2, n3⟩ := h.nm hs
  exact L12_ca2 h.1 h.2.2.2.2.2.1.1 hs n1 n2 n3 (h.2.2.2.1.2.2.2.2.1 (isN_2 c)) (h.2.2.1.2.2.2.1 (isN_2 c)) _ 0 (by omega) FU (FU_big (by omega))
theorem SM_oneOf {M : MM} (h : TsM M b L B Q t) {s : Nat} (hs : s < 2) : (∃ e M', takeN L B (NmS Q s).1 (NmS Q s).2 t = .inl e ∧ f12_oneOf M 86 (nI b) (nI s) = some (-1, M') ∧ GrM M M' ∧ Sm [86] [] M M' ∧ BdM M' e) ∨ (∃ k t' M', takeN L B (NmS Q s).1 (NmS Q s).2 t = .inr (k, t') ∧ f12_oneOf M 86 (nI b) (nI s) = some (nI k, M') ∧ GrM M M' ∧ Sm [86] [] M M' ∧ TsM M' b L B Q t' ∧ k < (NmS Q s).2) := by
  have w := h.1
  obtain ⟨n1, n2, n3⟩ := h.nm hs
  unfold f12_oneOf takeN
  rw [aO_86 w, g_isGood h, cI_some, if_neg (show ¬ (1 : Int32) = 0 by decide), aO_86 w, SM_isName h, cI_some]
  by_cases c : isN t = true
  · rw [if_pos c, c, if_neg (show ¬ bI true = 0 by decide), aO_86 w, SM_called h hs c, cI_some]
    have n1' : ¬ tkK t = 1 := by rw [isN_2 c]; decide
    cases q : fnd (NmS Q s).1 (tkW t) (NmS Q s).2 0 with
    | none =>
      obtain ⟨M', a1, a2, a3, a4⟩ := g_fails h (k := 3) (by omega) (by omega)
      rw [if_neg n1'] at a3
      have w' := a3.1
      refine .inl ⟨_, M', rfl, ?_, a2, a4, a3⟩
      unfold f12_oneOf_b26 f12_oneOf_b44 f12_oneOf_b47
      rw [if_neg (show ¬ (0 : Int32) ≤ fNo none by decide), aO_86 w, SM_isName h, cI_some, c, if_neg (show ¬ bI true = 0 by decide), aO_86 w, show (3 : Int32) = nI 3 from rfl, a1, cV_some, aO_86 w', b_goOn a3, cV_some]
      rfl
    | some k =>
      have lt := (fnd_lt q).2
      obtain ⟨M', a1, a2, a3, a4⟩ := g_goOn h
      refine .inr ⟨k, nxt L B t, M', rfl, ?_, a2, a4, a3, by omega⟩
      unfold f12_oneOf_b26 f12_oneOf_b47
      rw [if_pos (show (0 : Int32) ≤ fNo (some k) by show nI 0 ≤ nI k; exact nI_le (Nat.zero_le _) (by omega)), aO_86 w, a1, cV_some]
      rfl
  · rw [if_neg c]
    rw [Bool.not_eq_true] at c
    obtain ⟨M', a1, a2, a3, a4⟩ := g_fails h (k := 2) (by omega) (by omega)
    have w' := a3.1
    refine .inl ⟨_, M', rfl, ?_, a2, a4, a3⟩
    unfold f12_oneOf_b26 f12_oneOf_b44 f12_oneOf_b47
    rw [c, if_pos (show bI false = 0 from rfl), if_neg (show ¬ (0 : Int32) ≤ -1 by decide), aO_86 w, SM_isName h, cI_some, c, if_pos (show bI false = 0 from rfl), aO_86 w, show (2 : Int32) = nI 2 from rfl, a1, cV_some, aO_86 w', b_goOn a3, cV_some]
/-- what a line's reading answers at the reference -/
def LnM (f : Option MM) (M : MM) (L : Nat) (B : Nat → Nat) (r : PR (QG × TK)) : Prop := (∃ e M', r = .inl e ∧ f = some M' ∧ GrM M M' ∧ BdM M' e) ∨ (∃ Q' t' M', r = .inr (Q', t') ∧ f = some M' ∧ GrM M M' ∧ TsM M' 1 L B Q' t')
theorem b_109 {M : MM} (h : BdM M e) : f12_readLine_b109 M 86 = some M := by
  unfold f12_readLine_b109 f12_readLine_b129
  rw [aO_86 h.1, b_isGood h, cI_some, if_pos rfl, aO_86 h.1, b_goOn h, cV_some]
theorem kmm_3 (t : TK) (h : tkK t ≤ 4) : (nI (kmm (tkK t)) = 3) ↔ tkK t = 4 := by
  rw [show (3 : Int32) = nI 3 from rfl]
  unfold kmm
  split
  · rw [nI_eq (by omega) (by omega)]; omega
  · split
    · rw [nI_eq (by omega) (by omega)]; omega
    · rw [nI_eq (by omega) (by omega)]; omega
theorem kmm_2 (t : TK) (h : tkK t ≤ 4) : (nI (kmm (tkK t)) = 2) ↔ tkK t = 3 := by
  rw [show (2 : Int32) = nI 2 from rfl]
  unfold kmm
  split
  · rw [nI_eq (by omega) (by omega)]; omega
  · split
    · rw [nI_eq (by omega) (by omega)]; omega
    · rw [nI_eq (by omega) (by omega)]; omega
theorem kmm_0 (t : TK) (h : tkK t ≤ 4) : (nI (kmm (tkK t)) = 0) ↔ tkK t = 0 := by
  rw [show (0 : Int32) = nI 0 from rfl]
  unfold kmm
  split
  · rw [nI_eq (by omega) (by omega)]; omega
  · split
    · rw [nI_eq (by omega) (by omega)]; omega
    · rw [nI_eq (by omega) (by omega)]; omega
/-- a line's end -/
theorem g_109 {M : MM} (h : TsM M b L B Q t) : (∃ e M', semiA L B t = .inl e ∧ f12_readLine_b109 M 86 = some M' ∧ GrM M M' ∧ BdM M' e) ∨ (∃ t' M', semiA L B t = .inr t' ∧ f12_readLine_b109 M 86 = some M' ∧ GrM M M' ∧ TsM M' b L B Q t') := by
  have w := h.1
  have e11 : mI M 86 11 = nI (kmm (tkK t)) := h.2.2.1.2.1
  have k4 := h.2.2.2.1.2.2.2.1
  unfold f12_readLine_b109 f12_readLine_b129 semiA
  rw [aO_86 w, g_isGood h, cI_some, if_neg (show ¬ (1 : Int32) = 0 by decide), aO_86 w, e11]
  by_cases c : tkK t = 4
  · obtain ⟨M', a1, a2, a3, a4⟩ := g_goOn h
    refine .inr ⟨_, M', by rw [if_pos c], ?_, a2, a3⟩
    rw [if_pos ((kmm_3 t k4).mpr c), aO_86 w, a1, cV_some]
  · obtain ⟨M', a1, a2, a3, a4⟩ := g_fails h (k := 2) (by omega) (by omega)
    have w' := a3.1
    refine .inl ⟨_, M', by (rw [if_neg c]; rfl), ?_, a2, a3⟩
    rw [if_neg (fun z => c ((kmm_3 t k4).mp z)), aO_86 w, show (2 : Int32) = nI 2 from rfl, a1, cV_some, aO_86 w', b_goOn a3, cV_some]
/-- a name more -/
def addN (Q : QG) (s : Nat) (w : List Nat) : QG := if s = 0 then addS Q w else addG Q w
def roomS (s : Nat) : Nat := if s = 0 then 5 else 6
theorem TsM.add {M : MM} (h : TsM M 1 L B Q t) {s : Nat} (hs : s < 2) (hr : (NmS Q s).2 < roomS s) (c : isN t = true) : TsM (uI (uI M 88 (upx (mI M 88) (12 + 6 * s + (NmS Q s).2) (nI (c5 (tkW t))))) 87 (upx (mI M 87) (4 + s) (nI ((NmS Q s).2 + 1)))) 1 L B (addN Q s (tkW t)) t := by
  obtain ⟨w, tp, tk, g, h15, ⟨b2, p1, p2, p3, p4, p5, p6, p7, p8⟩, wq⟩ := id h
  have v := g.2.2.2.2.1 (isN_2 c)
  obtain ⟨M1, hM1⟩ : ∃ M1, M1 = uI (uI M 88 (upx (mI M 88) (12 + 6 * s + (NmS Q s).2) (nI (c5 (tkW t))))) 87 (upx (mI M 87) (4 + s) (nI ((NmS Q s).2 + 1))) := ⟨_, rfl⟩
  rw [← hM1]
  have e : ∀ x, x ≠ 87 → x ≠ 88 → mI M1 x = mI M x := fun x h1 h2 => by rw [hM1, mI_uI, if_neg h1, mI_uI, if_neg h2]
  have e7 : mI M1 87 = upx (mI M 87) (4 + s) (nI ((NmS Q s).2 + 1)) := by rw [hM1, mI_uI, if_pos rfl]
  have e8 : mI M1 88 = upx (mI M 88) (12 + 6 * s + (NmS Q s).2) (nI (c5 (tkW t))) := by rw [hM1, mI_uI, if_neg (by decide), mI_uI, if_pos rfl]
  have t1 : TpM M1 L B := by
    unfold TpM
    rw [e 86 (by decide) (by decide), e 91 (by decide) (by decide)]
    exact tp
  have t2 : TkM M1 t := by
    unfold TkM
    rw [e 86 (by decide) (by decide)]
    exact tk
  have w1 : Wl M1 := by rw [hM1]; exact w
  have h15' : mI M1 86 15 = 0 := by rw [e 86 (by decide) (by decide)]; exact h15
  obtain ⟨⟨q1, q2, q3, q4, q5, q6⟩, v1, v2⟩ := wq
  by_cases cs : s = 0
  · have eN : NmS Q s = (Q.2.1, pS Q.1) := if_pos cs
    rw [eN] at hr e7 e8
    have hr5 : pS Q.1 < 5 := by
      have : roomS s = 5 := if_pos cs
      rw [this] at hr
      exact hr
    rw [cs] at e7 e8
    have eA : addN Q s (tkW t) = addS Q (tkW t) := if_pos cs
    rw [eA]
    refine ⟨w1, t1, t2, g, h15', ⟨by decide, ?_, ?_, ?_, ?_, fun p hp => ?_, fun g' hg => ?_, ?_, ?_⟩, ⟨by show pS Q.1 + 1 ≤ 5; omega, q2, q3, q4, fun r hr => ?_, fun k hk => ?_⟩, fun p hp => ?_, v2⟩
    · rw [e7, upx_e, if_pos (by omega)]; rfl
    · rw [e7, upx_e, if_neg (by omega)]; exact p2
    · rw [e7, upx_e, if_neg (by omega)]; exact p3
    · rw [e7, upx_e, if_neg (by omega)]; exact p4
    · have hp' : p < pS Q.1 + 1 := hp
      rw [e8, upx_e]
      show _ = nI (c5 (upx Q.2.1 (pS Q.1) (tkW t) p))
      rw [upx_e]
      by_cases q : p = pS Q.1
      · rw [if_pos (by show 12 * 1 + p = 12 + 6 * 0 + pS Q.1; omega), if_pos q]
      · rw [if_neg (by show ¬ 12 * 1 + p = 12 + 6 * 0 + pS Q.1; omega), if_neg q]
        exact p5 p (by omega)
    · have hg' : g' < pG Q.1 := hg
      rw [e8, upx_e, if_neg (by show ¬ 12 * 1 + 6 + g' = 12 + 6 * 0 + pS Q.1; omega)]
      exact p6 g' hg
    · rw [e 89 (by decide) (by decide)]; exact p7
    · rw [e 90 (by decide) (by decide)]; exact p8
    · obtain ⟨a1, a2, a3, a4⟩ := q5 r hr
      exact ⟨Nat.lt_succ_of_lt a1, a2, Nat.lt_succ_of_lt a3, a4⟩
    · obtain ⟨a1, a2⟩ := q6 k hk
      exact ⟨Nat.lt_succ_of_lt a1, a2⟩
    · show NmV (upx Q.2.1 (pS Q.1) (tkW t) p)
      have hp' : p < pS Q.1 + 1 := hp
      rw [upx_e]
      split
      · exact v
      · exact v1 p (by omega)
  · have c1 : s = 1 := by omega
    have eN : NmS Q s = (Q.2.2, pG Q.1) := if_neg cs
    rw [eN] at hr e7 e8
    have hr6 : pG Q.1 < 6 := by
      have : roomS s = 6 := if_neg cs
      rw [this] at hr
      exact hr
    rw [c1] at e7 e8
    have eA : addN Q s (tkW t) = addG Q (tkW t) := if_neg cs
    rw [eA]
    refine ⟨w1, t1, t2, g, h15', ⟨by decide, ?_, ?_, ?_, ?_, fun p hp => ?_, fun g' hg => ?_, ?_, ?_⟩, ⟨q1, by show pG Q.1 + 1 ≤ 6; omega, q3, q4, fun r hr => ?_, fun k hk => ?_⟩, v1, fun p hp => ?_⟩
    · rw [e7, upx_e, if_neg (by omega)]; exact p1
    · rw [e7, upx_e, if_pos (by omega)]; rfl
    · rw [e7, upx_e, if_neg (by omega)]; exact p3
    · rw [e7, upx_e, if_neg (by omega)]; exact p4
    · have hp' : p < pS Q.1 := hp
      rw [e8, upx_e, if_neg (by show ¬ 12 * 1 + p = 12 + 6 * 1 + pG Q.1; omega)]
      exact p5 p hp
    · have hg' : g' < pG Q.1 + 1 := hg
      rw [e8, upx_e]
      show _ = nI (c5 (upx Q.2.2 (pG Q.1) (tkW t) g'))
      rw [upx_e]
      by_cases q : g' = pG Q.1
      · rw [if_pos (by show 12 * 1 + 6 + g' = 12 + 6 * 1 + pG Q.1; omega), if_pos q]
      · rw [if_neg (by show ¬ 12 * 1 + 6 + g' = 12 + 6 * 1 + pG Q.1; omega), if_neg q]
        exact p6 g' (by omega)
    · rw [e 89 (by decide) (by decide)]; exact p7
    · rw [e 90 (by decide) (by decide)]; exact p8
    · obtain ⟨a1, a2, a3, a4, a5, a6, a7⟩ := q5 r hr
      exact ⟨a1, Nat.lt_succ_of_lt a2, a3, a4, fun z => Nat.lt_succ_of_lt (a5 z), fun z => Nat.lt_succ_of_lt (a6 z), a7⟩
    · obtain ⟨a1, a2, a3, a4⟩ := q6 k hk
      exact ⟨a1, a2, a3, fun i hi => Nat.lt_succ_of_lt (a4 i hi)⟩
    · show NmV (upx Q.2.2 (pG Q.1) (tkW t) p)
      have hp' : p < pG Q.1 + 1 := hp
      rw [upx_e]
      split
      · exact v
      · exact v2 p (by omega)
theorem b_42 {M : MM} (h : BdM M e) (x : Int32) : f12_newName_b42 M 86 x = some M := by
  unfold f12_newName_b42 f12_newName_b86
  rw [aO_86 h.1, b_isGood h, cI_some, if_pos rfl, aO_86 h.1, b_goOn h, cV_some]
def nameA (L : Nat) (B : Nat → Nat) (Q : QG) (s : Nat) (t : TK) : PR (QG × TK) :=
  match newA Q (nxt L B t) with
  | .inl e => .inl e
  | .inr _ => match semiA L B (nxt L B (nxt L B t)) with
    | .inl e => .inl e
    | .inr t2 => .inr (addN Q s (tkW (nxt L B t)), t2)
theorem SM_newName {M : MM} (h : TsM M 1 L B Q t) {s : Nat} (hs : s < 2) (hr : (NmS Q s).2 < roomS s) : LnM (cV (f12_newName M 86 (nI s)) fun X => f12_readLine_b109 X 86) M L B (nameA L B Q s t) := by
  have w := h.1
  obtain ⟨M1, a1, a2, a3, -⟩ := h.take
  have w1 := a3.1
  have b2 := h.2.2.2.2.2.1.1
  have s5 := h.2.2.2.2.2.2.1.1
  have g6 := h.2.2.2.2.2.2.1.2.1
  unfold f12_newName nameA newA
  rw [aO_86 w, a1, cV_some, aO_86 w1, SM_isName a3, cI_some]
  by_cases c : isN (nxt L B t) = true
  · have n1' : ¬ tkK (nxt L B t) = 1 := by rw [isN_2 c]; decide
    have cS := SM_called a3 (s := 0) (by omega) c
    have cG := SM_called a3 (s := 1) (by omega) c
    have cS' : f12_called M1 86 1 0 = some (fNo (fnd Q.2.1 (tkW (nxt L B t)) (pS Q.1) 0), M1) := cS
    have cG' : f12_called M1 86 1 1 = some (fNo (fnd Q.2.2 (tkW (nxt L B t)) (pG Q.1) 0), M1) := cG
    have bad : ∀ x, ∃ M', (cV ((f12_newName_b37 f12_newName_b42) M1 86 x) fun X => f12_readLine_b109 X 86) = some M' ∧ GrM M1 M' ∧ BdM M' (3, tkP (nxt L B t)) := fun x => by
      obtain ⟨M', d1, d2, d3, d4⟩ := g_fails a3 (k := 3) (by omega) (by omega)
      rw [if_neg n1'] at d3
      refine ⟨M', ?_, d2, d3⟩
      unfold f12_newName_b37
      rw [aO_86 w1, show (3 : Int32) = nI 3 from rfl, d1, cV_some, b_42 d3, cV_some, b_109 d3]
    have sg : ∀ {o : Option Nat}, (∀ k, o = some k → k < 100) → ((0 : Int32) ≤ fNo o ↔ o.isSome = true) ∧ (fNo o < 0 ↔ o.isSome = false) := fun {o} ho => by
      cases o with
      | none => exact ⟨⟨fun z => absurd z (by decide), fun z => by cases z⟩, ⟨fun _ => rfl, fun _ => by decide⟩⟩
      | some k =>
        have := ho k rfl
        exact ⟨⟨fun _ => rfl, fun _ => nI_le (Nat.zero_le _) (by omega)⟩, ⟨fun z => absurd z (nI_pos (by omega)), fun z => by cases z⟩⟩
    have oS := sg (o := fnd Q.2.1 (tkW (nxt L B t)) (pS Q.1) 0) (fun k z => by have := fnd_lt z; omega)
    have oG := sg (o := fnd Q.2.2 (tkW (nxt L B t)) (pG Q.1) 0) (fun k z => by have := fnd_lt z; omega)
    rw [if_pos c, c, if_neg (show ¬ bI true = 0 by decide), aO_86 w1, cS', cI_some]
    obtain ⟨M', d1, d2, d3⟩ := bad (nI s)
    by_cases q1 : (fnd Q.2.1 (tkW (nxt L B t)) (pS Q.1) 0).isSome = true
    · rw [if_pos (oS.1.mpr q1), if_pos (.inl q1), d1]
      exact .inl ⟨_, M', rfl, rfl, a2.trans d2, d3⟩
    · rw [if_neg (fun z => q1 (oS.1.mp z)), aO_86 w1, cG', cI_some]
      by_cases q2 : (fnd Q.2.2 (tkW (nxt L B t)) (pG Q.1) 0).isSome = true
      · rw [if_neg (fun z => by rw [oG.2.mp z] at q2; cases q2), if_pos (.inr q2), d1]
        exact .inl ⟨_, M', rfl, rfl, a2.trans d2, d3⟩
      · rw [if_pos (oG.2.mpr (by rw [Bool.not_eq_true] at q2; exact q2)), if_neg (fun z => by rcases z with z | z; exact q1 z; exact q2 z)]
        obtain ⟨n1, n2, n3⟩ := a3.nm hs
        have n1'' : mI M1 87 (4 + s) = nI (NmS Q s).2 := n1
        have h2 := a3.add hs hr c
        obtain ⟨M2, hM2⟩ : ∃ M2, M2 = uI M1 88 (upx (mI M1 88) (12 + 6 * s + (NmS Q s).2) (nI (c5 (tkW (nxt L B t))))) := ⟨_, rfl⟩
        have e87 : mI M2 87 = mI M1 87 := by rw [hM2, mI_uI, if_neg (by decide)]
        have w2 : Wl M2 := by rw [hM2]; exact w1
        obtain ⟨M3, hM3⟩ : ∃ M3, M3 = uI M2 87 (upx (mI M1 87) (4 + s) (nI ((NmS Q s).2 + 1))) := ⟨_, rfl⟩
        rw [← hM2, ← hM3] at h2
        have w3 := h2.1
        have gr3 : GrM M M3 := by
          have x1 : GrM M1 M2 := by rw [hM2]; exact gr_88 (by omega) _
          have x2 : GrM M2 M3 := by rw [hM3, ← e87]; exact gr_87 (by omega) _
          exact (a2.trans x1).trans x2
        obtain ⟨M4, f1, f2, f3, -⟩ := g_goOn h2
        have bb : f12_newName_b42 M1 86 (nI s) = some M4 := by
          unfold f12_newName_b42 f12_newName_b86
          have l88 : 12 + 6 * s + (NmS Q s).2 < 24 := by
            have : roomS s ≤ 6 := by unfold roomS; split <;> omega
            omega
          rw [aO_86 w1, g_isGood a3, cI_some, if_neg (show ¬ (1 : Int32) = 0 by decide), aO_86 w1, aO_86 w1, r_86_1 w1, show (4 : Int32) = nI 4 from rfl, nI_add, aA_87 w1 (by omega), aO_86 w1, r_86_2 w1, show (12 : Int32) = nI 12 from rfl, show (6 : Int32) = nI 6 from rfl, nI_mulN, nI_add, nI_clamp (by omega), n1'', nI_add, aA_88 w1 l88, bM_e, sI_e, nI_clamp (by omega), a3.2.2.1.2.2.2.1 (isN_2 c), ← hM2, aO_86 w2, r_86_1 w2, aA_87 w2 (by omega), aA_87 w2 (by omega), bM_e, sI_e, e87, n1'', nI_1, ← hM3, aO_86 w3, f1, cV_some]
        rw [bb, cV_some]
        rcases g_109 f3 with ⟨e, M5, o1, o2, o3, o4⟩ | ⟨t', M5, o1, o2, o3, o4⟩
        · exact .inl ⟨e, M5, by simp only [o1], o2, (gr3.trans f2).trans o3, o4⟩
        · exact .inr ⟨_, t', M5, by simp only [o1], o2, (gr3.trans f2).trans o3, o4⟩
  · obtain ⟨M', d1, d2, d3, d4⟩ := g_fails a3 (k := 2) (by omega) (by omega)
    rw [if_neg c]
    rw [Bool.not_eq_true] at c
    rw [c, if_pos (show bI false = 0 from rfl), aO_86 w1, show (2 : Int32) = nI 2 from rfl, d1, cV_some, b_42 d3, cV_some, b_109 d3]
    exact .inl ⟨_, M', rfl, rfl, a2.trans d2, d3⟩
end ONEM
