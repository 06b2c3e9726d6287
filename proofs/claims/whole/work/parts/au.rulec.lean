/-! READING at the class: rules -/
section RULEC
variable {L : Nat} {B : Nat → Nat} {a : Nat} {Q : QG} {t : TK}
theorem m_22t {x : Nat} (h : x ∈ [22]) : x ∈ fI a := m_22 x h
theorem Sm.fi22 {M M' : MM} (s : Sm [22] [] M M') (a : Nat) : Sm (fI a) (fJ a) M M' := s.more m_22 m_0
def hIa (a : Nat) : List Nat := [2, a, a + 6, a + 8]
theorem m_2g (x : Nat) (h : x ∈ [2]) : x ∈ hIa a := by unfold hIa; rw [List.mem_singleton.mp h]; simp
theorem Sm.fi2 {M M' : MM} (s : Sm [2] [2] M M') (a : Nat) : Sm (hIa a) (fJ a) M M' := s.more m_2g m_2j
theorem Sm.gw {M M' : MM} (s : Sm (hIa a) (fJ a) M M') : Sm (fI a) (fJ a) M M' := s.more (fun x h => by unfold hIa at h; unfold fI; simp only [List.mem_cons, List.not_mem_nil, or_false] at h ⊢; omega) (fun x h => h)
theorem S7_setRule {M : MM} (w : Wl M) (pg : PgC M a Q.1) {r c : Nat} (hr : r < 14) (hc : c < 7) (v : Int32) : f7_setRule M a (nI r) (nI c) v = some (uI M (a + 6) (upx (mI M (a + 6)) (7 * r + c) v)) := by
  unfold f7_setRule
  rw [pg.oP w, show (7 : Int32) = nI 7 from rfl, nI_mulN, nI_add, Nat.mul_comm r 7]
  rcases pg.1 with e | e <;> subst e
  · rw [r_4_2 w, aO_9 w, s_9 w, pI_in (by omega) (by omega), cV_some]
  · rw [r_13_2 w, aO_18 w, s_18 w, pI_in (by omega) (by omega), cV_some]
theorem S7_setGoal {M : MM} (w : Wl M) (pg : PgC M a Q.1) {r c : Nat} (hr : r < 4) (hc : c < 6) (v : Int32) : f7_setGoal M a (nI r) (nI c) v = some (uI M (a + 8) (upx (mI M (a + 8)) (6 * r + c) v)) := by
  unfold f7_setGoal
  rw [pg.oP w, show (6 : Int32) = nI 6 from rfl, nI_mulN, nI_add, Nat.mul_comm r 6]
  rcases pg.1 with e | e <;> subst e
  · rw [r_4_3 w, aO_11 w, s_11 w, pI_in (by omega) (by omega), cV_some]
  · rw [r_13_3 w, aO_20 w, s_20 w, pI_in (by omega) (by omega), cV_some]
theorem smWRf {M M' : MM} (s : Sm (fI a) (fJ a) M M') (r : Nat → Int32) : Sm (fI a) (fJ a) M (uI M' (a + 6) r) := s.uI r (by simp [fI])
theorem smWKf {M M' : MM} (s : Sm (fI a) (fJ a) M M') (r : Nat → Int32) : Sm (fI a) (fJ a) M (uI M' (a + 8) r) := s.uI r (by simp [fI])
theorem smWR {M M' : MM} (s : Sm (hIa a) (fJ a) M M') (r : Nat → Int32) : Sm (hIa a) (fJ a) M (uI M' (a + 6) r) := s.uI r (by simp [hIa])
theorem smWK {M M' : MM} (s : Sm (hIa a) (fJ a) M M') (r : Nat → Int32) : Sm (hIa a) (fJ a) M (uI M' (a + 8) r) := s.uI r (by simp [hIa])
theorem smW0 {M M' : MM} (s : Sm (hIa a) (fJ a) M M') (k : Nat) (v : Int32) : Sm (hIa a) (fJ a) M (sI M' a k v) := by rw [sI_e]; exact s.uI _ (by simp [hIa])
/-- a cell of the rule that is read -/
theorem RdC.rule {M : MM} (h : RdC M a L B Q t) {c : Nat} (v : Int32) : RdC (uI M (a + 6) (upx (mI M (a + 6)) (7 * pR Q.1 + c) v)) a L B Q t := by
  have a4 := h.a4
  obtain ⟨w, tp, tk, g, r1, ⟨pg, n1, n2⟩, wq⟩ := h
  have e : ∀ b, b ≠ a + 6 → mI (uI M (a + 6) (upx (mI M (a + 6)) (7 * pR Q.1 + c) v)) b = mI M b := fun b hb => by rw [mI_uI, if_neg hb]
  refine ⟨w, ?_, ?_, g, r1, ⟨⟨pg.1, ?_, ?_, ?_, ?_, ?_, ?_⟩, n1, n2⟩, wq⟩
  · unfold TpC
    rw [e 2 (by omega), e 3 (by omega)]
    exact tp
  · unfold TkC
    rw [e 2 (by omega)]
    exact tk
  · rw [e a (by omega)]; exact pg.2.1
  · rw [e a (by omega)]; exact pg.2.2.1
  · rw [e a (by omega)]; exact pg.2.2.2.1
  · rw [e a (by omega)]; exact pg.2.2.2.2.1
  · intro r hr c' hc'
    rw [mI_uI, if_pos rfl, upx_e, if_neg (by omega)]
    exact pg.2.2.2.2.2.1 r hr c' hc'
  · rw [e (a + 8) (by omega)]; exact pg.2.2.2.2.2.2
def RdR (M : MM) (a : Nat) (L : Nat) (B : Nat → Nat) (Q : QG) (t : TK) (ρ : Nat → Int32) : Prop := RdC M a L B Q t ∧ ∀ c, c < 7 → mI M (a + 6) (7 * pR Q.1 + c) = ρ c
theorem RdR.set {M : MM} {ρ : Nat → Int32} (h : RdR M a L B Q t ρ) {c : Nat} (v : Int32) : RdR (uI M (a + 6) (upx (mI M (a + 6)) (7 * pR Q.1 + c) v)) a L B Q t (upx ρ c v) := ⟨h.1.rule v, fun c' hc' => by
  rw [mI_uI, if_pos rfl, upx_e, upx_e]
  by_cases e : c' = c
  · rw [if_pos (by omega), if_pos e]
  · rw [if_neg (by omega), if_neg e]
    exact h.2 c' hc'⟩
theorem RdR.nx {M M' : MM} {ρ : Nat → Int32} {t' : TK} (h : RdR M a L B Q t ρ) (s : Sm [2] [2] M M') (h' : RdC M' a L B Q t') : RdR M' a L B Q t' ρ := ⟨h', fun c hc => by
  have a4 := h.1.a4
  rw [s.i (a + 6) (by rcases a4 with e | e <;> subst e <;> decide)]
  exact h.2 c hc⟩
theorem FtC.sm {M M' : MM} {e : Nat × Nat} (h : FtC M e) (i : mI M' 22 = mI M 22) : FtC M' e := by
  unfold FtC at *
  rw [i]
  exact h
theorem RdC.ns {M : MM} (h : RdC M a L B Q t) : (22 : Nat) ≠ a + 6 ∧ (22 : Nat) ≠ a + 8 ∧ (22 : Nat) ≠ a := by have := h.a4; omega
theorem S8_rState {M : MM} {ρ : Nat → Int32} (h : RdR M a L B Q t ρ) (hR : pR Q.1 < 14) {c : Nat} (hc : c < 7) : (∃ e M', takeN L B Q.2.1 (pS Q.1) t = .inl e ∧ f8_readsRuleState M 22 (nI (pR Q.1)) (nI c) = some (0, M') ∧ Sm (fI a) (fJ a) M M' ∧ FtC M' e) ∨ (∃ k t' M', takeN L B Q.2.1 (pS Q.1) t = .inr (k, t') ∧ f8_readsRuleState M 22 (nI (pR Q.1)) (nI c) = some (1, M') ∧ Sm (hIa a) (fJ a) M M' ∧ RdR M' a L B Q t' (upx ρ c (nI k)) ∧ k < pS Q.1) := by
  obtain ⟨w, tp, tk, g, r1, pn, wq⟩ := id h.1
  have p5 := wq.1.1
  obtain ⟨r, s1, s2⟩ := S8_takeS h.1
  unfold f8_readsRuleState
  rw [aO_22 w, aO_22 w, r_22_0 w, aO_2 w, r1, pn.1.oP w, s1, cI_some, aO_22 w]
  rcases s2 with ⟨e, M1, x1, x2, x3, x4⟩ | ⟨k, t', M1, x1, x2, x3, x4, x5⟩
  · have w1 := w.sm x3
    have pg1 : PgC M1 a Q.1 := pn.1.sm x3 (by decide)
    refine .inl ⟨e, uI M1 (a + 6) (upx (mI M1 (a + 6)) (7 * pR Q.1 + c) (-1)), x1, ?_, smWRf (x3.fi22 a) _, x4.sm (by rw [mI_uI, if_neg h.1.ns.1])⟩
    rw [x2, cI_some, aO_22 w1, x3.r, r1, pg1.oP w1, S7_setRule w1 pg1 hR hc, cV_some, if_pos rfl]
  · obtain ⟨w1, -, -, -, r1', pn1, -⟩ := id x4
    refine .inr ⟨k, t', uI M1 (a + 6) (upx (mI M1 (a + 6)) (7 * pR Q.1 + c) (nI k)), x1, ?_, smWR (x3.fi2 a) _, (h.nx x3 x4).set _, x5⟩
    rw [x2, cI_some, aO_22 w1, r1', pn1.1.oP w1, S7_setRule w1 pn1.1 hR hc, cV_some, if_neg (nI_neM (by omega))]
theorem S8_rSign {M : MM} {ρ : Nat → Int32} (h : RdR M a L B Q t ρ) (hR : pR Q.1 < 14) {c : Nat} (hc : c < 7) : (∃ e M', takeN L B Q.2.2 (pG Q.1) t = .inl e ∧ f8_readsRuleSign M 22 (nI (pR Q.1)) (nI c) = some (0, M') ∧ Sm (fI a) (fJ a) M M' ∧ FtC M' e) ∨ (∃ k t' M', takeN L B Q.2.2 (pG Q.1) t = .inr (k, t') ∧ f8_readsRuleSign M 22 (nI (pR Q.1)) (nI c) = some (1, M') ∧ Sm (hIa a) (fJ a) M M' ∧ RdR M' a L B Q t' (upx ρ c (nI k)) ∧ k < pG Q.1) := by
  obtain ⟨w, tp, tk, g, r1, pn, wq⟩ := id h.1
  have p5 := wq.1.2.1
  obtain ⟨r, s1, s2⟩ := S8_takeG h.1
  unfold f8_readsRuleSign
  rw [aO_22 w, aO_22 w, r_22_0 w, aO_2 w, r1, pn.1.oP w, s1, cI_some, aO_22 w]
  rcases s2 with ⟨e, M1, x1, x2, x3, x4⟩ | ⟨k, t', M1, x1, x2, x3, x4, x5⟩
  · have w1 := w.sm x3
    have pg1 : PgC M1 a Q.1 := pn.1.sm x3 (by decide)
    refine .inl ⟨e, uI M1 (a + 6) (upx (mI M1 (a + 6)) (7 * pR Q.1 + c) (-1)), x1, ?_, smWRf (x3.fi22 a) _, x4.sm (by rw [mI_uI, if_neg h.1.ns.1])⟩
    rw [x2, cI_some, aO_22 w1, x3.r, r1, pg1.oP w1, S7_setRule w1 pg1 hR hc, cV_some, if_pos rfl]
  · obtain ⟨w1, -, -, -, r1', pn1, -⟩ := id x4
    refine .inr ⟨k, t', uI M1 (a + 6) (upx (mI M1 (a + 6)) (7 * pR Q.1 + c) (nI k)), x1, ?_, smWR (x3.fi2 a) _, (h.nx x3 x4).set _, x5⟩
    rw [x2, cI_some, aO_22 w1, r1', pn1.1.oP w1, S7_setRule w1 pn1.1 hR hc, cV_some, if_neg (nI_neM (by omega))]
theorem S8_rTo {M : MM} {ρ : Nat → Int32} (h : RdR M a L B Q t ρ) : (∃ e M', toA L B t = .inl e ∧ f8_readsTo M 22 = some (0, M') ∧ Sm (fI a) (fJ a) M M' ∧ FtC M' e) ∨ (∃ t' M', toA L B t = .inr t' ∧ f8_readsTo M 22 = some (1, M') ∧ Sm (hIa a) (fJ a) M M' ∧ RdR M' a L B Q t' ρ) := by
  obtain ⟨w, tp, tk, g, r1, pn, wq⟩ := id h.1
  unfold f8_readsTo toA
  rw [aO_22 w, r_22_0 w, aO_2 w, show (29807 : Int64) = lN (c8 kwT) from rfl, S9_isWord w tk g (by decide), cI_some]
  by_cases c : isW t kwT = true
  · obtain ⟨M', a1, a2, a3⟩ := h.1.take
    refine .inr ⟨_, M', by rw [if_pos c], ?_, a2.fi2 a, h.nx a2 a3⟩
    rw [c, if_neg (show ¬ bI true = 0 by decide), aO_22 w, r_22_0 w, aO_2 w, a1, cV_some]
  · obtain ⟨M', a1, a2, a3⟩ := S8_refuse w tk g
    refine .inl ⟨_, M', by rw [if_neg c], ?_, a2.fi22 a, a3⟩
    rw [Bool.not_eq_true] at c
    rw [c, if_pos (show bI false = 0 from rfl), aO_22 w, a1, cI_some, gd_e (.inl rfl)]
def wrL (ρ : Nat → Int32) : Nat → List Nat → Nat → Int32
  | _, [] => ρ
  | p, k :: l => wrL (upx ρ p (nI k)) (p + 1) l
theorem L8_rs22 : ∀ (m i : Nat) {M : MM} {ρ : Nat → Int32} {t : TK}, i + m = 2 → RdR M a L B Q t ρ → pR Q.1 < 14 → ∀ f, m < f → (∃ e M', sgA L B Q.2.2 (pG Q.1) m t = .inl e ∧ LP4 f8_readsRuleSigns_b22_body f M 22 (nI (pR Q.1)) (nI i) = some (0, M') ∧ Sm (fI a) (fJ a) M M' ∧ FtC M' e) ∨ (∃ l t' M', sgA L B Q.2.2 (pG Q.1) m t = .inr (l, t') ∧ LP4 f8_readsRuleSigns_b22_body f M 22 (nI (pR Q.1)) (nI i) = some (1, M') ∧ Sm (hIa a) (fJ a) M M' ∧ RdR M' a L B Q t' (upx (wrL ρ (4 + i) l) 3 (nI (i + l.length))))
  | m, i, M, ρ, t, hi, h, hR, 0, hf => absurd hf (Nat.not_lt_zero _)
  | 0, i, M, ρ, t, hi, h, hR, f + 1, _ => by
    obtain ⟨w, tp, tk, g, r1, pn, wq⟩ := id h.1
    refine .inr ⟨[], t, _, rfl, ?_, smWR (Sm.rfl _ _ M) _, h.set (c := 3) _⟩
    rw [LP4_s]
    generalize LP4 f8_readsRuleSigns_b22_body f = K
    unfold f8_readsRuleSigns_b22_body f8_readsRuleSigns_b81
    rw [show (2 : Int32) = nI 2 from rfl, if_pos (nI_le (by omega) (by omega)), aO_22 w, r1, pn.1.oP w, show (3 : Int32) = nI 3 from rfl, S7_setRule w pn.1 hR (by omega), cV_some]
    rfl
  | m + 1, i, M, ρ, t, hi, h, hR, f + 1, hf => by
    obtain ⟨w, tp, tk, g, r1, pn, wq⟩ := id h.1
    have p5 := wq.1.2.1
    have sg : sgA L B Q.2.2 (pG Q.1) (m + 1) t = if isN t = true then (match takeN L B Q.2.2 (pG Q.1) t with | .inl e => .inl e | .inr (k, t1) => match sgA L B Q.2.2 (pG Q.1) m t1 with | .inl e => .inl e | .inr (l, t2) => .inr (k :: l, t2)) else .inr ([], t) := rfl
    rw [sg]
    by_cases c : isN t = true
    · rw [if_pos c]
      obtain ⟨r, s1, s2⟩ := S8_takeG h.1
      have head : ∀ v M1, f8_takeNamed M 22 r = some (v, M1) → LP4 f8_readsRuleSigns_b22_body (f + 1) M 22 (nI (pR Q.1)) (nI i) = if v = (-1 : Int32) then some ((0 : Int32), M1) else aO M1 22 8 <| aO M1 (mR M1 22 1) 7 <| cV (f7_setRule M1 (mR M1 22 1) (nI (pR Q.1)) (nI (4 + i)) v) fun M52 => LP4 f8_readsRuleSigns_b22_body f M52 22 (nI (pR Q.1)) (nI (i + 1)) := fun v M1 hv => by
        rw [LP4_s]
        generalize LP4 f8_readsRuleSigns_b22_body f = K
        unfold f8_readsRuleSigns_b22_body
        rw [show (2 : Int32) = nI 2 from rfl, if_neg (nI_ge (by omega) (by omega)), aO_22 w, r_22_0 w, aO_2 w, S9_isName w tk g, cI_some, c, if_neg (show ¬ bI true = 0 by decide), aO_22 w, aO_22 w, r_22_0 w, aO_2 w, r1, pn.1.oP w, s1, cI_some, aO_22 w, hv, cI_some, show (4 : Int32) = nI 4 from rfl, nI_add, nI_1]
      rcases s2 with ⟨e, M1, x1, x2, x3, x4⟩ | ⟨k, t1, M1, x1, x2, x3, x4, x5⟩
      · refine .inl ⟨e, M1, by rw [x1], ?_, x3.fi22 a, x4⟩
        rw [head _ _ x2, if_pos rfl]
      · obtain ⟨w1, -, -, -, r1', pn1, -⟩ := id x4
        have hd := head _ _ x2
        rw [if_neg (nI_neM (by omega)), aO_22 w1, r1', pn1.1.oP w1, S7_setRule w1 pn1.1 hR (by omega), cV_some] at hd
        have h2 := (h.nx x3 x4).set (c := 4 + i) (nI k)
        rcases L8_rs22 m (i + 1) (by omega) h2 hR f (by omega) with ⟨e, M2, y1, y2, y3, y4⟩ | ⟨l, t2, M2, y1, y2, y3, y4⟩
        · exact .inl ⟨e, M2, by rw [x1]; simp only [y1], by rw [hd]; exact y2, (smWR (x3.fi2 a) _).gw.trans y3, y4⟩
        · refine .inr ⟨k :: l, t2, M2, by rw [x1]; simp only [y1], by rw [hd]; exact y2, (smWR (x3.fi2 a) _).trans y3, ?_⟩
          show RdR M2 a L B Q t2 (upx (wrL (upx ρ (4 + i) (nI k)) (4 + i + 1) l) 3 (nI (i + (l.length + 1))))
          rw [show i + (l.length + 1) = i + 1 + l.length by omega]
          exact y4
    · rw [if_neg c]
      rw [Bool.not_eq_true] at c
      refine .inr ⟨[], t, _, rfl, ?_, smWR (Sm.rfl _ _ M) _, h.set (c := 3) _⟩
      rw [LP4_s]
      generalize LP4 f8_readsRuleSigns_b22_body f = K
      unfold f8_readsRuleSigns_b22_body f8_readsRuleSigns_b81
      rw [show (2 : Int32) = nI 2 from rfl, if_neg (nI_ge (by omega) (by omega)), aO_22 w, r_22_0 w, aO_2 w, S9_isName w tk g, cI_some, c, if_pos (show bI false = 0 from rfl), aO_22 w, r1, pn.1.oP w, show (3 : Int32) = nI 3 from rfl, S7_setRule w pn.1 hR (by omega), cV_some]
      rfl
theorem S8_rSigns {M : MM} {ρ : Nat → Int32} (h : RdR M a L B Q t ρ) (hR : pR Q.1 < 14) : (∃ e M', sgA L B Q.2.2 (pG Q.1) 2 t = .inl e ∧ f8_readsRuleSigns M 22 (nI (pR Q.1)) = some (0, M') ∧ Sm (fI a) (fJ a) M M' ∧ FtC M' e) ∨ (∃ l t' M', sgA L B Q.2.2 (pG Q.1) 2 t = .inr (l, t') ∧ f8_readsRuleSigns M 22 (nI (pR Q.1)) = some (1, M') ∧ Sm (hIa a) (fJ a) M M' ∧ RdR M' a L B Q t' (upx (wrL (upx (upx ρ 4 (-1)) 5 (-1)) 4 l) 3 (nI l.length))) := by
  obtain ⟨w, tp, tk, g, r1, pn, wq⟩ := id h.1
  have h1 := h.set (c := 4) (-1)
  obtain ⟨w1, -, -, -, r1', pn1, -⟩ := id h1.1
  have h2 := h1.set (c := 5) (-1)
  have hd : f8_readsRuleSigns M 22 (nI (pR Q.1)) = f8_readsRuleSigns_b22 (uI (uI M (a + 6) (upx (mI M (a + 6)) (7 * pR Q.1 + 4) (-1))) (a + 6) (upx (mI (uI M (a + 6) (upx (mI M (a + 6)) (7 * pR Q.1 + 4) (-1))) (a + 6)) (7 * pR Q.1 + 5) (-1))) 22 (nI (pR Q.1)) 0 := by
    unfold f8_readsRuleSigns
    rw [aO_22 w, r1, pn.1.oP w, show (4 : Int32) = nI 4 from rfl, S7_setRule w pn.1 hR (by omega), cV_some, aO_22 w1, r1', pn1.1.oP w1, show (5 : Int32) = nI 5 from rfl, S7_setRule w1 pn1.1 hR (by omega), cV_some]
  have s2 : Sm (hIa a) (fJ a) M _ := smWR (smWR (a := a) (Sm.rfl _ _ M) (upx (mI M (a + 6)) (7 * pR Q.1 + 4) (-1))) (upx (mI (uI M (a + 6) (upx (mI M (a + 6)) (7 * pR Q.1 + 4) (-1))) (a + 6)) (7 * pR Q.1 + 5) (-1))
  rw [hd]
  rcases L8_rs22 2 0 (by omega) h2 hR FU (FU_big (by omega)) with ⟨e, M2, y1, y2, y3, y4⟩ | ⟨l, t2, M2, y1, y2, y3, y4⟩
  · exact .inl ⟨e, M2, y1, y2, s2.gw.trans y3, y4⟩
  · rw [Nat.zero_add, Nat.add_zero] at y4
    exact .inr ⟨l, t2, M2, y1, y2, s2.trans y3, y4⟩
theorem S8_rCost {M : MM} {ρ : Nat → Int32} (h : RdR M a L B Q t ρ) (hR : pR Q.1 < 14) : (∃ e M', costA L B t = .inl e ∧ f8_readsRuleCost M 22 (nI (pR Q.1)) = some (0, M') ∧ Sm (fI a) (fJ a) M M' ∧ FtC M' e) ∨ (∃ v t' M', costA L B t = .inr (v, t') ∧ f8_readsRuleCost M 22 (nI (pR Q.1)) = some (1, M') ∧ Sm (hIa a) (fJ a) M M' ∧ RdR M' a L B Q t' (upx ρ 6 (nI v))) := by
  obtain ⟨w, tp, tk, g, r1, pn, wq⟩ := id h.1
  have h1 := h.set (c := 6) 1
  have s1 : Sm (hIa a) (fJ a) M (uI M (a + 6) (upx (mI M (a + 6)) (7 * pR Q.1 + 6) 1)) := smWR (Sm.rfl _ _ M) _
  obtain ⟨M1, hM1⟩ : ∃ M1, M1 = uI M (a + 6) (upx (mI M (a + 6)) (7 * pR Q.1 + 6) 1) := ⟨_, rfl⟩
  rw [← hM1] at h1 s1
  obtain ⟨w1, tp1, tk1, g1, r1', pn1, -⟩ := id h1.1
  unfold f8_readsRuleCost costA
  rw [aO_22 w, r1, pn.1.oP w, show (6 : Int32) = nI 6 from rfl, S7_setRule w pn.1 hR (by omega), cV_some, ← hM1, aO_22 w1, r_22_0 w1, aO_2 w1, show (1668248436 : Int64) = lN (c8 kwC) from rfl, S9_isWord w1 tk1 g1 (by decide), cI_some]
  by_cases c : isW t kwC = true
  · obtain ⟨M2, a1, a2, a3⟩ := h1.1.take
    have h2 := h1.nx a2 a3
    obtain ⟨w2, tp2, tk2, g2, r2, pn2, -⟩ := id a3
    have k4 := g2.2.2.2.1
    rw [if_pos c, c, if_neg (show ¬ bI true = 0 by decide), aO_22 w1, r_22_0 w1, aO_2 w1, a1, cV_some, aO_22 w2, r_22_0 w2, aO_2 w2, tk2.2.1]
    by_cases c1 : tkK (nxt L B t) = 3
    · have v9 := g2.2.2.2.2.2 c1
      rw [if_pos (show nI (tkK (nxt L B t)) = 3 by rw [c1]; rfl), if_pos c1, aO_22 w2, aO_2 w2, tk2.2.2.2.2 c1]
      obtain ⟨M3, b1, b2, b3⟩ := S8_fail w2 tk2 4
      have bad : f8_readsRuleCost_b72 M2 22 = some (0, M3) := by
        unfold f8_readsRuleCost_b72
        rw [aO_22 w2, show (4 : Int32) = nI 4 from rfl, b1, cI_some, gd_e (.inl rfl)]
      by_cases c2 : tkV (nxt L B t) < 1
      · rw [if_pos (show nI (tkV (nxt L B t)) < 1 by rw [show (1 : Int32) = nI 1 from rfl, c_lt (by omega) (by omega)]; exact c2), if_neg (fun z => by omega), bad]
        exact .inl ⟨_, M3, rfl, rfl, (s1.trans (a2.fi2 a)).gw.trans (b2.fi22 a), b3⟩
      · rw [if_neg (show ¬ nI (tkV (nxt L B t)) < 1 by rw [show (1 : Int32) = nI 1 from rfl, c_lt (by omega) (by omega)]; exact c2), aO_22 w2, aO_2 w2]
        by_cases c3 : tkV (nxt L B t) ≤ 99
        · have h3 := h2.set (c := 6) (nI (tkV (nxt L B t)))
          obtain ⟨M4, hM4⟩ : ∃ M4, M4 = uI M2 (a + 6) (upx (mI M2 (a + 6)) (7 * pR Q.1 + 6) (nI (tkV (nxt L B t)))) := ⟨_, rfl⟩
          rw [← hM4] at h3
          have s4 : Sm (hIa a) (fJ a) M M4 := by rw [hM4]; exact smWR (s1.trans (a2.fi2 a)) _
          obtain ⟨M5, d1, d2, d3⟩ := h3.1.take
          have w4 := h3.1.1
          rw [if_pos (show nI (tkV (nxt L B t)) ≤ 99 by rw [show (99 : Int32) = nI 99 from rfl, c_le (by omega) (by omega)]; exact c3), if_pos (show 1 ≤ tkV (nxt L B t) ∧ tkV (nxt L B t) ≤ 99 by omega), aO_22 w2, aO_22 w2, aO_2 w2, r2, pn2.1.oP w2, S7_setRule w2 pn2.1 hR (by omega), cV_some, ← hM4, aO_22 w4, r_22_0 w4, aO_2 w4, d1, cV_some]
          refine .inr ⟨_, _, M5, rfl, rfl, s4.trans (d2.fi2 a), ?_⟩
          have := h3.nx d2 d3
          rw [upx_upx] at this
          exact this
        · rw [if_neg (show ¬ nI (tkV (nxt L B t)) ≤ 99 by rw [show (99 : Int32) = nI 99 from rfl, c_le (by omega) (by omega)]; exact c3), if_neg (fun z => by omega), bad]
          exact .inl ⟨_, M3, rfl, rfl, (s1.trans (a2.fi2 a)).gw.trans (b2.fi22 a), b3⟩
    · obtain ⟨M3, b1, b2, b3⟩ := S8_refuse w2 tk2 g2
      rw [if_neg (show ¬ nI (tkK (nxt L B t)) = 3 by rw [show (3 : Int32) = nI 3 from rfl, nI_eq (by omega) (by omega)]; exact c1), if_neg c1, aO_22 w2, b1, cI_some, gd_e (.inl rfl)]
      exact .inl ⟨_, M3, rfl, rfl, (s1.trans (a2.fi2 a)).gw.trans (b2.fi22 a), b3⟩
  · rw [if_neg c]
    rw [Bool.not_eq_true] at c
    rw [c, if_pos (show bI false = 0 from rfl)]
    exact .inr ⟨1, t, M1, rfl, rfl, s1, h1⟩
end RULEC
