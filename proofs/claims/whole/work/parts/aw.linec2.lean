/-! READING at the class: lines of rules and goals -/
section LINEC2
variable {L : Nat} {B : Nat → Nat} {a : Nat} {Q : QG} {t : TK}
def rhoR (ρ : Nat → Int32) (p b c : Nat) (l : List Nat) (v : Nat) : Nat → Int32 := upx (upx (wrL (upx (upx (upx (upx (upx ρ 0 (nI p)) 1 (nI b)) 2 (nI c)) 4 (-1)) 5 (-1)) 4 l) 3 (nI l.length)) 6 (nI v)
theorem rhoR_ok {ρ : Nat → Int32} {p b c v : Nat} {l : List Nat} (hl : l.length ≤ 2) {i : Nat} (hi : i < 7) : rhoR ρ p b c l v i = clR (addR Q p b c l v).1 (pR Q.1) i := by
  have e : (addR Q p b c l v).1.2.1 (pR Q.1) = rwF p b c l v := if_pos rfl
  unfold clR rn
  rw [e]
  match l, hl with
  | [], _ =>
    unfold rhoR
    show upx (upx (upx (upx (upx (upx (upx ρ 0 (nI p)) 1 (nI b)) 2 (nI c)) 4 (-1)) 5 (-1)) 3 (nI 0)) 6 (nI v) i = _
    have h : i = 0 ∨ i = 1 ∨ i = 2 ∨ i = 3 ∨ i = 4 ∨ i = 5 ∨ i = 6 := by omega
    rcases h with h | h | h | h | h | h | h <;> subst h <;> simp [upx_e, rwF]
  | [x], _ =>
    unfold rhoR
    show upx (upx (upx (upx (upx (upx (upx (upx ρ 0 (nI p)) 1 (nI b)) 2 (nI c)) 4 (-1)) 5 (-1)) 4 (nI x)) 3 (nI 1)) 6 (nI v) i = _
    have h : i = 0 ∨ i = 1 ∨ i = 2 ∨ i = 3 ∨ i = 4 ∨ i = 5 ∨ i = 6 := by omega
    rcases h with h | h | h | h | h | h | h <;> subst h <;> simp [upx_e, rwF]
  | [x, y], _ =>
    unfold rhoR
    show upx (upx (upx (upx (upx (upx (upx (upx (upx ρ 0 (nI p)) 1 (nI b)) 2 (nI c)) 4 (-1)) 5 (-1)) 4 (nI x)) 5 (nI y)) 3 (nI 2)) 6 (nI v) i = _
    have h : i = 0 ∨ i = 1 ∨ i = 2 ∨ i = 3 ∨ i = 4 ∨ i = 5 ∨ i = 6 := by omega
    rcases h with h | h | h | h | h | h | h <;> subst h <;> simp [upx_e, rwF]
theorem clR_old {p b c v r i : Nat} {l : List Nat} (hr : r < pR Q.1) : clR (addR Q p b c l v).1 r i = clR Q.1 r i := by
  have e : (addR Q p b c l v).1.2.1 r = Q.1.2.1 r := if_neg (by omega)
  unfold clR rn
  rw [e]
theorem RdR.add {M : MM} {ρ : Nat → Int32} {p b c v : Nat} {l : List Nat} (h : RdR M a L B Q t (rhoR ρ p b c l v)) (hl : l.length ≤ 2) (wq' : WQ (addR Q p b c l v)) : RdC (sI M a 6 (nI (pR Q.1 + 1))) a L B (addR Q p b c l v) t := by
  have a4 := h.1.a4
  obtain ⟨⟨w0, tp, tk, g, r1, ⟨pg, n1, n2⟩, wq⟩, hρ⟩ := h
  have e : ∀ x j, ¬ (x = a ∧ j = 6) → mI (sI M a 6 (nI (pR Q.1 + 1))) x j = mI M x j := fun x j hb => by rw [mI_sI, if_neg hb]
  have eb : ∀ x, x ≠ a → mI (sI M a 6 (nI (pR Q.1 + 1))) x = mI M x := fun x hb => by rw [sI_e, mI_uI, if_neg hb]
  refine ⟨w0, ?_, ?_, g, r1, ⟨⟨pg.1, ?_, ?_, ?_, ?_, ?_, ?_⟩, n1, n2⟩, wq'⟩
  · unfold TpC
    rw [eb 2 (by omega), eb 3 (by omega)]
    exact tp
  · unfold TkC
    rw [eb 2 (by omega)]
    exact tk
  · rw [e a 4 (by omega)]; exact pg.2.1
  · rw [e a 5 (by omega)]; exact pg.2.2.1
  · rw [mI_sI, if_pos ⟨rfl, rfl⟩]; rfl
  · rw [e a 7 (by omega)]; exact pg.2.2.2.2.1
  · rw [eb (a + 6) (by omega)]
    intro r hr c' hc'
    have hr' : r < pR Q.1 + 1 := hr
    by_cases q : r = pR Q.1
    · rw [q, ← rhoR_ok (Q := Q) (ρ := ρ) hl hc']
      exact hρ c' hc'
    · rw [clR_old (show r < pR Q.1 by omega)]
      exact pg.2.2.2.2.2.1 r (by omega) c' hc'
  · rw [eb (a + 8) (by omega)]
    exact pg.2.2.2.2.2.2
theorem S8_readsRule {M : MM} (h : RdC M a L B Q t) : LnC (f8_readsRule M 22) M a L B (ruleA L B Q t) := by
  obtain ⟨w, tp, tk, g, r1, pn, wq⟩ := id h
  have p5 := wq.1.2.2.1
  unfold f8_readsRule ruleA
  rw [aO_22 w, r1, pn.1.oP w, pn.1.2.2.2.1]
  by_cases c : 14 ≤ pR Q.1
  · obtain ⟨M', a1, a2, a3⟩ := S8_fail w tk 5
    rw [if_pos c, if_neg (show ¬ nI (pR Q.1) < 14 by rw [show (14 : Int32) = nI 14 from rfl, c_lt (by omega) (by omega)]; omega), aO_22 w, show (5 : Int32) = nI 5 from rfl, a1, cI_some, gd_e (.inl rfl)]
    exact .inl ⟨_, M', rfl, rfl, a2.fi22 a, a3⟩
  · have hR : pR Q.1 < 14 := by omega
    obtain ⟨M1, b1, b2, b3⟩ := h.take
    obtain ⟨w1, tp1, tk1, g1, r11, pn1, -⟩ := id b3
    have bad : ∀ M', (f8_readsRule_b94 f8_readsRule_b95) M' 22 = some (0, M') := fun M' => by
      unfold f8_readsRule_b94 f8_readsRule_b95
      rw [if_pos rfl, gd_e (.inl rfl)]
    rw [if_neg c, if_pos (show nI (pR Q.1) < 14 by rw [show (14 : Int32) = nI 14 from rfl, c_lt (by omega) (by omega)]; omega), aO_22 w, r_22_0 w, aO_2 w, b1, cV_some, aO_22 w1, r11, pn1.1.oP w1, bW_e, pn1.1.2.2.2.1, aO_22 w1]
    have hr0 : RdR M1 a L B Q (nxt L B t) (fun c => mI M1 (a + 6) (7 * pR Q.1 + c)) := ⟨b3, fun _ _ => rfl⟩
    have s1 := b2.fi2 a
    rcases S8_rState hr0 hR (c := 0) (by omega) with ⟨e, M2, x1, x2, x3, x4⟩ | ⟨k1, t2, M2, x1, x2, x3, x4, x5⟩
    · have x2' : f8_readsRuleState M1 22 (nI (pR Q.1)) 0 = some (0, M2) := x2
      rw [x2', cI_some, if_pos rfl, bad]
      exact .inl ⟨e, M2, by simp only [x1], rfl, s1.gw.trans x3, x4⟩
    · have x2' : f8_readsRuleState M1 22 (nI (pR Q.1)) 0 = some (1, M2) := x2
      have w2 := x4.1.1
      rw [x2', cI_some, if_neg (by decide), aO_22 w2]
      rcases S8_rSign x4 hR (c := 1) (by omega) with ⟨e, M3, y1, y2, y3, y4⟩ | ⟨k2, t3, M3, y1, y2, y3, y4, y5⟩
      · have y2' : f8_readsRuleSign M2 22 (nI (pR Q.1)) 1 = some (0, M3) := y2
        rw [y2', cI_some, if_pos rfl, bad]
        exact .inl ⟨e, M3, by simp only [x1, y1], rfl, (s1.trans x3).gw.trans y3, y4⟩
      · have y2' : f8_readsRuleSign M2 22 (nI (pR Q.1)) 1 = some (1, M3) := y2
        have w3 := y4.1.1
        rw [y2', cI_some, if_neg (by decide), aO_22 w3]
        have s3 := (s1.trans x3).trans y3
        rcases S8_rTo y4 with ⟨e, M4, z1, z2, z3, z4⟩ | ⟨t4, M4, z1, z2, z3, z4⟩
        · rw [z2, cI_some, if_pos rfl, bad]
          exact .inl ⟨e, M4, by simp only [x1, y1, z1], rfl, s3.gw.trans z3, z4⟩
        · have w4 := z4.1.1
          rw [z2, cI_some, if_neg (by decide), aO_22 w4]
          have s4 := s3.trans z3
          rcases S8_rState z4 hR (c := 2) (by omega) with ⟨e, M5, u1, u2, u3, u4⟩ | ⟨k3, t5, M5, u1, u2, u3, u4, u5⟩
          · have u2' : f8_readsRuleState M4 22 (nI (pR Q.1)) 2 = some (0, M5) := u2
            rw [u2', cI_some, if_pos rfl, bad]
            exact .inl ⟨e, M5, by simp only [x1, y1, z1, u1], rfl, s4.gw.trans u3, u4⟩
          · have u2' : f8_readsRuleState M4 22 (nI (pR Q.1)) 2 = some (1, M5) := u2
            have w5 := u4.1.1
            rw [u2', cI_some, if_neg (by decide), aO_22 w5]
            have s5 := s4.trans u3
            rcases S8_rSigns u4 hR with ⟨e, M6, v1, v2, v3, v4⟩ | ⟨l, t6, M6, v1, v2, v3, v4⟩
            · rw [v2, cI_some, if_pos rfl, bad]
              exact .inl ⟨e, M6, by simp only [x1, y1, z1, u1, v1], rfl, s5.gw.trans v3, v4⟩
            · have w6 := v4.1.1
              rw [v2, cI_some, if_neg (by decide), aO_22 w6]
              have s6 := s5.trans v3
              obtain ⟨ll, lx, -⟩ := sgA_g u4.1.2.2.2.1 v1
              rcases S8_rCost v4 hR with ⟨e, M7, q1, q2, q3, q4⟩ | ⟨v, t7, M7, q1, q2, q3, q4⟩
              · rw [q2, cI_some, if_pos rfl, bad]
                exact .inl ⟨e, M7, by simp only [x1, y1, z1, u1, v1, q1], rfl, s6.gw.trans q3, q4⟩
              · have w7 := q4.1.1
                rw [q2, cI_some, if_neg (by decide), aO_22 w7]
                have s7 := s6.trans q3
                obtain ⟨-, -, vv1, vv2⟩ := costA_g v4.1.2.2.2.1 q1
                rcases S8_readsSemicolon q4.1 with ⟨e, M8, o1, o2, o3, o4⟩ | ⟨t8, M8, o1, o2, o3, o4⟩
                · rw [o2, cI_some, if_pos rfl, bad]
                  exact .inl ⟨e, M8, by simp only [x1, y1, z1, u1, v1, q1, o1], rfl, s7.gw.trans (o3.fi22 a), o4⟩
                · have w8 := o4.1
                  have wq' : WQ (addR Q k1 k2 k3 l v) := addR_w wq hR x5 y5 u5 ll lx vv1 vv2
                  have h8 : RdR M8 a L B Q t8 (rhoR (fun c => mI M1 (a + 6) (7 * pR Q.1 + c)) k1 k2 k3 l v) := q4.nx o3 o4
                  rw [o2, cI_some, if_neg (by decide)]
                  refine .inr ⟨_, t8, sI M8 a 6 (nI (pR Q.1 + 1)), by simp only [x1, y1, z1, u1, v1, q1, o1], ?_, smW0 (s7.trans (o3.fi2 a)) _ _, h8.add ll wq'⟩
                  obtain ⟨-, -, -, -, r18, pn8, -⟩ := id o4
                  unfold f8_readsRule_b95
                  rw [if_neg (by decide), aO_22 w8, r18, pn8.1.oP w8, pn8.1.oP w8, pn8.1.2.2.2.1, nI_1, bM_e, gd_e (.inr rfl)]
/-! goals -/
theorem RdC.goal {M : MM} (h : RdC M a L B Q t) {c : Nat} (v : Int32) : RdC (uI M (a + 8) (upx (mI M (a + 8)) (6 * pK Q.1 + c) v)) a L B Q t := by
  have a4 := h.a4
  obtain ⟨w, tp, tk, g, r1, ⟨pg, n1, n2⟩, wq⟩ := h
  have e : ∀ b, b ≠ a + 8 → mI (uI M (a + 8) (upx (mI M (a + 8)) (6 * pK Q.1 + c) v)) b = mI M b := fun b hb => by rw [mI_uI, if_neg hb]
  refine ⟨w, ?_, ?_, g, r1, ⟨⟨pg.1, ?_, ?_, ?_, ?_, ?_, ?_⟩, n1, n2⟩, wq⟩
  · unfold TpC
    rw [e 2 (by omega), e 3 (by omega)]
    exact tp
  · unfold TkC
    rw [e 2 (by omega)]
    exact tk
  · rw [e a (by omega)]; exact pg.2.1
  · rw [e a (by omega)]; exact pg.2.2.1
  · rw [e a (by omega)]; exact pg.2.2.2.1
  · rw [e a (by omega)]; exact pg.2.2.2.2.1
  · rw [e (a + 6) (by omega)]; exact pg.2.2.2.2.2.1
  · intro k hk c' hc'
    have k3 := (wq.1.2.2.2.2.2 k hk).2.1
    rw [mI_uI, if_pos rfl, upx_e, if_neg (by omega)]
    exact pg.2.2.2.2.2.2 k hk c' hc'
def RdK (M : MM) (a : Nat) (L : Nat) (B : Nat → Nat) (Q : QG) (t : TK) (ρ : Nat → Int32) : Prop := RdC M a L B Q t ∧ ∀ c, c < 6 → mI M (a + 8) (6 * pK Q.1 + c) = ρ c
theorem RdK.set {M : MM} {ρ : Nat → Int32} (h : RdK M a L B Q t ρ) {c : Nat} (v : Int32) : RdK (uI M (a + 8) (upx (mI M (a + 8)) (6 * pK Q.1 + c) v)) a L B Q t (upx ρ c v) := ⟨h.1.goal v, fun c' hc' => by
  rw [mI_uI, if_pos rfl, upx_e, upx_e]
  by_cases e : c' = c
  · rw [if_pos (by omega), if_pos e]
  · rw [if_neg (by omega), if_neg e]
    exact h.2 c' hc'⟩
theorem RdK.nx {M M' : MM} {ρ : Nat → Int32} {t' : TK} (h : RdK M a L B Q t ρ) (s : Sm [2] [2] M M') (h' : RdC M' a L B Q t') : RdK M' a L B Q t' ρ := ⟨h', fun c hc => by
  have a4 := h.1.a4
  rw [s.i (a + 8) (by rcases a4 with e | e <;> subst e <;> decide)]
  exact h.2 c hc⟩
theorem L8_gs2 : ∀ (m i : Nat) {M : MM} {ρ : Nat → Int32} {t : TK}, i + m = 3 → RdK M a L B Q t ρ → pK Q.1 < 4 → ∀ f, m < f → (∃ e M', sgA L B Q.2.2 (pG Q.1) m t = .inl e ∧ LP4 f8_readsGoalSigns_b2_body f M 22 (nI (pK Q.1)) (nI i) = some (0, M') ∧ Sm (fI a) (fJ a) M M' ∧ FtC M' e) ∨ (∃ l t' M', sgA L B Q.2.2 (pG Q.1) m t = .inr (l, t') ∧ LP4 f8_readsGoalSigns_b2_body f M 22 (nI (pK Q.1)) (nI i) = some (1, M') ∧ Sm (hIa a) (fJ a) M M' ∧ RdK M' a L B Q t' (upx (wrL ρ (3 + i) l) 1 (nI (i + l.length))))
  | m, i, M, ρ, t, hi, h, hR, 0, hf => absurd hf (Nat.not_lt_zero _)
  | 0, i, M, ρ, t, hi, h, hR, f + 1, _ => by
    obtain ⟨w, tp, tk, g, r1, pn, wq⟩ := id h.1
    refine .inr ⟨[], t, _, rfl, ?_, smWK (Sm.rfl _ _ M) _, h.set (c := 1) _⟩
    rw [LP4_s]
    generalize LP4 f8_readsGoalSigns_b2_body f = K
    unfold f8_readsGoalSigns_b2_body f8_readsGoalSigns_b61
    rw [show (3 : Int32) = nI 3 from rfl, if_pos (nI_le (by omega) (by omega)), aO_22 w, r1, pn.1.oP w, show (1 : Int32) = nI 1 from rfl, S7_setGoal w pn.1 hR (by omega), cV_some]
    rfl
  | m + 1, i, M, ρ, t, hi, h, hR, f + 1, hf => by
    obtain ⟨w, tp, tk, g, r1, pn, wq⟩ := id h.1
    have p5 := wq.1.2.1
    have sg : sgA L B Q.2.2 (pG Q.1) (m + 1) t = if isN t = true then (match takeN L B Q.2.2 (pG Q.1) t with | .inl e => .inl e | .inr (k, t1) => match sgA L B Q.2.2 (pG Q.1) m t1 with | .inl e => .inl e | .inr (l, t2) => .inr (k :: l, t2)) else .inr ([], t) := rfl
    rw [sg]
    by_cases c : isN t = true
    · rw [if_pos c]
      obtain ⟨r, s1, s2⟩ := S8_takeG h.1
      have head : ∀ v M1, f8_takeNamed M 22 r = some (v, M1) → LP4 f8_readsGoalSigns_b2_body (f + 1) M 22 (nI (pK Q.1)) (nI i) = if v = (-1 : Int32) then some ((0 : Int32), M1) else aO M1 22 8 <| aO M1 (mR M1 22 1) 7 <| cV (f7_setGoal M1 (mR M1 22 1) (nI (pK Q.1)) (nI (3 + i)) v) fun M52 => LP4 f8_readsGoalSigns_b2_body f M52 22 (nI (pK Q.1)) (nI (i + 1)) := fun v M1 hv => by
        rw [LP4_s]
        generalize LP4 f8_readsGoalSigns_b2_body f = K
        unfold f8_readsGoalSigns_b2_body
        rw [show (3 : Int32) = nI 3 from rfl, if_neg (nI_ge (by omega) (by omega)), aO_22 w, r_22_0 w, aO_2 w, S9_isName w tk g, cI_some, c, if_neg (show ¬ bI true = 0 by decide), aO_22 w, aO_22 w, r_22_0 w, aO_2 w, r1, pn.1.oP w, s1, cI_some, aO_22 w, hv, cI_some, nI_add, nI_1]
      rcases s2 with ⟨e, M1, x1, x2, x3, x4⟩ | ⟨k, t1, M1, x1, x2, x3, x4, x5⟩
      · refine .inl ⟨e, M1, by rw [x1], ?_, x3.fi22 a, x4⟩
        rw [head _ _ x2, if_pos rfl]
      · obtain ⟨w1, -, -, -, r1', pn1, -⟩ := id x4
        have hd := head _ _ x2
        rw [if_neg (nI_neM (by omega)), aO_22 w1, r1', pn1.1.oP w1, S7_setGoal w1 pn1.1 hR (by omega), cV_some] at hd
        have h2 := (h.nx x3 x4).set (c := 3 + i) (nI k)
        rcases L8_gs2 m (i + 1) (by omega) h2 hR f (by omega) with ⟨e, M2, y1, y2, y3, y4⟩ | ⟨l, t2, M2, y1, y2, y3, y4⟩
        · exact .inl ⟨e, M2, by rw [x1]; simp only [y1], by rw [hd]; exact y2, (smWK (x3.fi2 a) _).gw.trans y3, y4⟩
        · refine .inr ⟨k :: l, t2, M2, by rw [x1]; simp only [y1], by rw [hd]; exact y2, (smWK (x3.fi2 a) _).trans y3, ?_⟩
          show RdK M2 a L B Q t2 (upx (wrL (upx ρ (3 + i) (nI k)) (3 + i + 1) l) 1 (nI (i + (l.length + 1))))
          rw [show i + (l.length + 1) = i + 1 + l.length by omega]
          exact y4
    · rw [if_neg c]
      rw [Bool.not_eq_true] at c
      refine .inr ⟨[], t, _, rfl, ?_, smWK (Sm.rfl _ _ M) _, h.set (c := 1) _⟩
      rw [LP4_s]
      generalize LP4 f8_readsGoalSigns_b2_body f = K
      unfold f8_readsGoalSigns_b2_body f8_readsGoalSigns_b61
      rw [show (3 : Int32) = nI 3 from rfl, if_neg (nI_ge (by omega) (by omega)), aO_22 w, r_22_0 w, aO_2 w, S9_isName w tk g, cI_some, c, if_pos (show bI false = 0 from rfl), aO_22 w, r1, pn.1.oP w, show (1 : Int32) = nI 1 from rfl, S7_setGoal w pn.1 hR (by omega), cV_some]
      rfl
def rhoK (ρ : Nat → Int32) (p : Nat) (l : List Nat) (v : Nat) : Nat → Int32 := upx (upx (wrL (upx ρ 0 (nI p)) 3 l) 1 (nI l.length)) 2 (nI v)
theorem rhoK_ok {ρ : Nat → Int32} {p v : Nat} {l : List Nat} (hl : l.length ≤ 3) {i : Nat} (hi : i < 3 + l.length) : rhoK ρ p l v i = nI (gwF p l v i) := by
  match l, hl with
  | [], _ =>
    unfold rhoK
    show upx (upx (upx ρ 0 (nI p)) 1 (nI 0)) 2 (nI v) i = _
    have h : i = 0 ∨ i = 1 ∨ i = 2 := by simp at hi; omega
    rcases h with h | h | h <;> subst h <;> simp [upx_e, gwF]
  | [x], _ =>
    unfold rhoK
    show upx (upx (upx (upx ρ 0 (nI p)) 3 (nI x)) 1 (nI 1)) 2 (nI v) i = _
    have h : i = 0 ∨ i = 1 ∨ i = 2 ∨ i = 3 := by simp at hi; omega
    rcases h with h | h | h | h <;> subst h <;> simp [upx_e, gwF]
  | [x, y], _ =>
    unfold rhoK
    show upx (upx (upx (upx (upx ρ 0 (nI p)) 3 (nI x)) 4 (nI y)) 1 (nI 2)) 2 (nI v) i = _
    have h : i = 0 ∨ i = 1 ∨ i = 2 ∨ i = 3 ∨ i = 4 := by simp at hi; omega
    rcases h with h | h | h | h | h <;> subst h <;> simp [upx_e, gwF]
  | [x, y, z], _ =>
    unfold rhoK
    show upx (upx (upx (upx (upx (upx ρ 0 (nI p)) 3 (nI x)) 4 (nI y)) 5 (nI z)) 1 (nI 3)) 2 (nI v) i = _
    have h : i = 0 ∨ i = 1 ∨ i = 2 ∨ i = 3 ∨ i = 4 ∨ i = 5 := by simp at hi; omega
    rcases h with h | h | h | h | h | h <;> subst h <;> simp [upx_e, gwF]
theorem RdK.add {M : MM} {ρ : Nat → Int32} {p v : Nat} {l : List Nat} (h : RdK M a L B Q t (rhoK ρ p l v)) (hl : l.length ≤ 3) (wq' : WQ (addK Q p l v)) : RdC (sI M a 7 (nI (pK Q.1 + 1))) a L B (addK Q p l v) t := by
  have a4 := h.1.a4
  obtain ⟨⟨w0, tp, tk, g, r1, ⟨pg, n1, n2⟩, wq⟩, hρ⟩ := h
  have e : ∀ x j, ¬ (x = a ∧ j = 7) → mI (sI M a 7 (nI (pK Q.1 + 1))) x j = mI M x j := fun x j hb => by rw [mI_sI, if_neg hb]
  have eb : ∀ x, x ≠ a → mI (sI M a 7 (nI (pK Q.1 + 1))) x = mI M x := fun x hb => by rw [sI_e, mI_uI, if_neg hb]
  refine ⟨w0, ?_, ?_, g, r1, ⟨⟨pg.1, ?_, ?_, ?_, ?_, ?_, ?_⟩, n1, n2⟩, wq'⟩
  · unfold TpC
    rw [eb 2 (by omega), eb 3 (by omega)]
    exact tp
  · unfold TkC
    rw [eb 2 (by omega)]
    exact tk
  · rw [e a 4 (by omega)]; exact pg.2.1
  · rw [e a 5 (by omega)]; exact pg.2.2.1
  · rw [e a 6 (by omega)]; exact pg.2.2.2.1
  · rw [mI_sI, if_pos ⟨rfl, rfl⟩]; rfl
  · rw [eb (a + 6) (by omega)]
    exact pg.2.2.2.2.2.1
  · rw [eb (a + 8) (by omega)]
    intro k hk c' hc'
    have hk' : k < pK Q.1 + 1 := hk
    by_cases q : k = pK Q.1
    · have e1 : (addK Q p l v).1.2.2 k = gwF p l v := if_pos q
      unfold kn at hc'
      rw [e1] at hc' ⊢
      have hc2 : c' < 3 + l.length := hc'
      rw [q, ← rhoK_ok (ρ := ρ) hl hc2]
      exact hρ c' (by omega)
    · have e1 : (addK Q p l v).1.2.2 k = Q.1.2.2 k := if_neg q
      unfold kn at hc'
      rw [e1] at hc' ⊢
      exact pg.2.2.2.2.2.2 k (by omega) c' hc'
theorem S8_readsGoal {M : MM} (h : RdC M a L B Q t) : LnC (f8_readsGoal M 22) M a L B (goalA L B Q t) := by
  obtain ⟨w, tp, tk, g, r1, pn, wq⟩ := id h
  have p5 := wq.1.2.2.2.1
  unfold f8_readsGoal goalA
  rw [aO_22 w, r1, pn.1.oP w, pn.1.2.2.2.2.1]
  by_cases c : 4 ≤ pK Q.1
  · obtain ⟨M', a1, a2, a3⟩ := S8_fail w tk 5
    rw [if_pos c, if_neg (show ¬ nI (pK Q.1) < 4 by rw [show (4 : Int32) = nI 4 from rfl, c_lt (by omega) (by omega)]; omega), aO_22 w, show (5 : Int32) = nI 5 from rfl, a1, cI_some, gd_e (.inl rfl)]
    exact .inl ⟨_, M', rfl, rfl, a2.fi22 a, a3⟩
  · have hR : pK Q.1 < 4 := by omega
    obtain ⟨M1, b1, b2, b3⟩ := h.take
    obtain ⟨w1, tp1, tk1, g1, r11, pn1, wq1⟩ := id b3
    have s5 := wq1.1.1
    obtain ⟨r, st1, st2⟩ := S8_takeS b3
    have hr0 : RdK M1 a L B Q (nxt L B t) (fun c => mI M1 (a + 8) (6 * pK Q.1 + c)) := ⟨b3, fun _ _ => rfl⟩
    have s1 := b2.fi2 a
    rw [if_neg c, if_pos (show nI (pK Q.1) < 4 by rw [show (4 : Int32) = nI 4 from rfl, c_lt (by omega) (by omega)]; omega), aO_22 w, r_22_0 w, aO_2 w, b1, cV_some, aO_22 w1, r11, pn1.1.oP w1, bW_e, pn1.1.2.2.2.2.1, aO_22 w1, aO_22 w1, r_22_0 w1, aO_2 w1, pn1.1.oP w1, st1, cI_some, aO_22 w1]
    rcases st2 with ⟨e, M2, x1, x2, x3, x4⟩ | ⟨k1, t2, M2, x1, x2, x3, x4, x5⟩
    · have w2 := w1.sm x3
      have pg2 : PgC M2 a Q.1 := pn1.1.sm x3 (by decide)
      rw [x2, cI_some, aO_22 w2, x3.r, r11, pg2.oP w2, show (0 : Int32) = nI 0 from rfl, S7_setGoal w2 pg2 hR (by omega), cV_some, if_pos rfl]
      exact .inl ⟨e, _, by simp only [x1], rfl, smWKf (s1.gw.trans (x3.fi22 a)) _, x4.sm (by rw [mI_uI, if_neg h.ns.2.1])⟩
    · obtain ⟨w2, -, -, -, r12, pn2, -⟩ := id x4
      have h3 := (hr0.nx x3 x4).set (c := 0) (nI k1)
      obtain ⟨M3, hM3⟩ : ∃ M3, M3 = uI M2 (a + 8) (upx (mI M2 (a + 8)) (6 * pK Q.1 + 0) (nI k1)) := ⟨_, rfl⟩
      rw [← hM3] at h3
      have w3 := h3.1.1
      have s3 : Sm (hIa a) (fJ a) M M3 := by rw [hM3]; exact smWK (s1.trans (x3.fi2 a)) _
      rw [x2, cI_some, aO_22 w2, r12, pn2.1.oP w2, show (0 : Int32) = nI 0 from rfl, S7_setGoal w2 pn2.1 hR (by omega), cV_some, if_neg (nI_neM (by omega)), ← hM3, aO_22 w3]
      rcases L8_gs2 3 0 (by omega) h3 hR FU (FU_big (by omega)) with ⟨e, M4, y1, y2, y3, y4⟩ | ⟨l, t3, M4, y1, y2, y3, y4⟩
      · have y2' : f8_readsGoalSigns M3 22 (nI (pK Q.1)) = some (0, M4) := y2
        rw [y2', cI_some, if_pos (show (0 : Int32) = nI 0 from rfl)]
        exact .inl ⟨e, M4, by simp only [x1, y1], rfl, s3.gw.trans y3, y4⟩
      · have y2' : f8_readsGoalSigns M3 22 (nI (pK Q.1)) = some (1, M4) := y2
        rw [Nat.zero_add, Nat.add_zero] at y4
        obtain ⟨w4, -, tk4, g4, r14, pn4, -⟩ := id y4.1
        obtain ⟨ll, lx, -⟩ := sgA_g x4.2.2.2.1 y1
        have s4 := s3.trans y3
        rw [y2', cI_some, if_neg (show ¬ (1 : Int32) = nI 0 by decide), aO_22 w4, r_22_0 w4, aO_2 w4, show (1836020325 : Int64) = lN (c8 kwM) from rfl, S9_isWord w4 tk4 g4 (by decide), cI_some, aO_22 w4]
        have fin : ∀ (v : Nat) (t4 : TK) (M5 : MM), moreA L B t3 = (v, t4) → v ≤ 1 → RdK M5 a L B Q t4 (rhoK (fun c => mI M1 (a + 8) (6 * pK Q.1 + c)) k1 l v) → Sm (hIa a) (fJ a) M M5 → ∀ X, X = f8_readsGoal_b116 M5 22 → LnC X M a L B (match semiA L B (moreA L B t3).2 with | .inl e => .inl e | .inr t4 => .inr (addK Q k1 l (moreA L B t3).1, t4)) := fun v t4 M5 em v1 h5 s5 X hX => by
          have w5 := h5.1.1
          rw [em, hX]
          unfold f8_readsGoal_b116
          rw [aO_22 w5]
          rcases S8_readsSemicolon h5.1 with ⟨e, M6, o1, o2, o3, o4⟩ | ⟨t5, M6, o1, o2, o3, o4⟩
          · rw [o2, cI_some, if_pos rfl]
            exact .inl ⟨e, M6, by simp only [o1], rfl, s5.gw.trans (o3.fi22 a), o4⟩
          · obtain ⟨w6, -, -, -, r16, pn6, -⟩ := id o4
            have wq' : WQ (addK Q k1 l v) := addK_w wq hR x5 ll lx v1
            rw [o2, cI_some, if_neg (by decide), aO_22 w6, r16, pn6.1.oP w6, pn6.1.oP w6, pn6.1.2.2.2.2.1, nI_1, bM_e]
            exact .inr ⟨_, t5, _, by simp only [o1], rfl, smW0 (s5.trans (o3.fi2 a)) _ _, (h5.nx o3 o4).add ll wq'⟩
        simp only [x1, y1]
        unfold f8_readsGoal_b102
        by_cases cm : isW t3 kwM = true
        · have h5 := y4.set (c := 2) (nI 1)
          obtain ⟨M5, hM5⟩ : ∃ M5, M5 = uI M4 (a + 8) (upx (mI M4 (a + 8)) (6 * pK Q.1 + 2) (nI 1)) := ⟨_, rfl⟩
          rw [← hM5] at h5
          have s5' : Sm (hIa a) (fJ a) M M5 := by rw [hM5]; exact smWK s4 _
          have w5 := h5.1.1
          obtain ⟨M6, d1, d2, d3⟩ := h5.1.take
          rw [cm, if_neg (show ¬ bI true = nI 0 by decide), r14, pn4.1.oP w4, show (2 : Int32) = nI 2 from rfl, show (1 : Int32) = nI 1 from rfl, S7_setGoal w4 pn4.1 hR (by omega), cV_some, ← hM5, if_neg (show ¬ bI true = 0 by decide), aO_22 w5, r_22_0 w5, aO_2 w5, d1, cV_some]
          exact fin 1 (nxt L B t3) M6 (by unfold moreA; rw [if_pos cm]) (Nat.le_refl _) (h5.nx d2 d3) (s5'.trans (d2.fi2 a)) _ rfl
        · have h5 := y4.set (c := 2) (nI 0)
          obtain ⟨M5, hM5⟩ : ∃ M5, M5 = uI M4 (a + 8) (upx (mI M4 (a + 8)) (6 * pK Q.1 + 2) (nI 0)) := ⟨_, rfl⟩
          rw [← hM5] at h5
          have s5' : Sm (hIa a) (fJ a) M M5 := by rw [hM5]; exact smWK s4 _
          have cm' := cm
          rw [Bool.not_eq_true] at cm'
          rw [cm', if_pos (show bI false = nI 0 from rfl), r14, pn4.1.oP w4, show (2 : Int32) = nI 2 from rfl, S7_setGoal w4 pn4.1 hR (by omega), cV_some, ← hM5, if_pos (show bI false = 0 from rfl)]
          exact fin 0 t3 M5 (by unfold moreA; rw [if_neg cm]) (Nat.zero_le _) h5 s5' _ rfl
end LINEC2
