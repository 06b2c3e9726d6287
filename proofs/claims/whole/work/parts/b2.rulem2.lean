/-! READING at the reference: lines of rules and goals -/
section RULEM2
variable {L : Nat} {B : Nat → Nat} {Q : QG} {t : TK} {e : Nat × Nat}
theorem TsR.add {M : MM} {ρ : Nat → Int32} {p b c v : Nat} {l : List Nat} (h : TsR M L B Q t (rhoR ρ p b c l v)) (hl : l.length ≤ 2) (wq' : WQ (addR Q p b c l v)) : ∃ M', f12_newRule_b235 M 86 = some M' ∧ GrM M M' ∧ TsM M' 1 L B (addR Q p b c l v) t := by
  obtain ⟨⟨w, tp, tk, g, h15, ⟨b2, p1, p2, p3, p4, p5, p6, p7, p8⟩, wq⟩, hρ⟩ := h
  have e : ∀ x, x ≠ 87 → mI (uI M 87 (upx (mI M 87) 6 (nI (pR Q.1 + 1)))) x = mI M x := fun x hx => by rw [mI_uI, if_neg hx]
  have e7 : mI (uI M 87 (upx (mI M 87) 6 (nI (pR Q.1 + 1)))) 87 = upx (mI M 87) 6 (nI (pR Q.1 + 1)) := by rw [mI_uI, if_pos rfl]
  refine ⟨_, ?_, gr_87 (i := 6) (by omega) (nI (pR Q.1 + 1)), w, ?_, ?_, g, ?_, ⟨b2, ?_, ?_, ?_, ?_, ?_, ?_, fun r hr c' hc' => ?_, ?_⟩, wq'⟩
  · unfold f12_newRule_b235
    have p3' : mI M 87 6 = nI (pR Q.1) := p3
    rw [aO_86 w, r_86_1 w, show (6 : Int32) = nI 6 from rfl, aA_87 w (by omega), aA_87 w (by omega), bM_e, sI_e, nI_clamp (by omega), p3', nI_1]
  · unfold TpM
    rw [e 86 (by decide), e 91 (by decide)]
    exact tp
  · unfold TkM
    rw [e 86 (by decide)]
    exact tk
  · rw [e 86 (by decide)]; exact h15
  · rw [e7, upx_e, if_neg (by omega)]; exact p1
  · rw [e7, upx_e, if_neg (by omega)]; exact p2
  · rw [e7, upx_e, if_pos (by omega)]; rfl
  · rw [e7, upx_e, if_neg (by omega)]; exact p4
  · rw [e 88 (by decide)]; exact p5
  · rw [e 88 (by decide)]; exact p6
  · have hr' : r < pR Q.1 + 1 := hr
    rw [e 89 (by decide)]
    by_cases q : r = pR Q.1
    · rw [q, ← rhoR_ok (Q := Q) (ρ := ρ) hl hc']
      have := hρ c' hc'
      rw [show 98 * 1 + (7 * pR Q.1 + c') = 98 + 7 * pR Q.1 + c' by omega]
      exact this
    · rw [clR_old (show r < pR Q.1 by omega)]
      exact p7 r (by omega) c' hc'
  · rw [e 90 (by decide)]; exact p8
theorem SM_newRule {M : MM} (h : TsM M 1 L B Q t) (hR : pR Q.1 < 14) : LnM (cV (f12_newRule M 86) fun X => f12_readLine_b109 X 86) M L B (ruleA L B Q t) := by
  have w := h.1
  obtain ⟨M1, a1, a2, a3, a4⟩ := h.take
  have w1 := a3.1
  have m6 : mI M 87 6 = nI (pR Q.1) := h.2.2.2.2.2.1.2.2.2.1
  have wq := h.2.2.2.2.2.2
  have h1 : TsR M1 L B Q (nxt L B t) (fun c => mI M1 89 (98 + 7 * pR Q.1 + c)) := ⟨a3, fun _ _ => rfl⟩
  have ruleN : ruleA L B Q t = (match takeN L B Q.2.1 (pS Q.1) (nxt L B t) with | .inl e => .inl e | .inr (a, t2) => match takeN L B Q.2.2 (pG Q.1) t2 with | .inl e => .inl e | .inr (b, t3) => match toA L B t3 with | .inl e => .inl e | .inr t4 => match takeN L B Q.2.1 (pS Q.1) t4 with | .inl e => .inl e | .inr (c, t5) => match sgA L B Q.2.2 (pG Q.1) 2 t5 with | .inl e => .inl e | .inr (l, t6) => match costA L B t6 with | .inl e => .inl e | .inr (v, t7) => match semiA L B t7 with | .inl e => .inl e | .inr t8 => .inr (addR Q a b c l v, t8)) := by
    unfold ruleA
    rw [if_neg (by omega)]
    rfl
  rw [ruleN]
  have hd : f12_newRule M 86 = (cI (f12_oneOf M1 86 (nI 1) (nI 0)) fun r26 M26 =>
    aA M26 (mR M1 86 3) 0 (nI (98 + 7 * pR Q.1)) <|
    bM (sI M26 (mR M1 86 3) (nI (98 + 7 * pR Q.1)).toNatClampNeg r26) fun M29 =>
    aO M29 86 12 <|
    aO M29 86 12 <|
    cI (f12_oneOf M29 86 (nI 1) (nI 1)) fun r40 M40 =>
    aA M40 (mR M29 86 3) 0 (nI (98 + 7 * pR Q.1) + (1 : Int32)) <|
    bM (sI M40 (mR M29 86 3) (nI (98 + 7 * pR Q.1) + (1 : Int32)).toNatClampNeg r40) fun M43 =>
    aO M43 86 12 <|
    cI (f12_isGood M43 86) fun r45 M45 =>
    if r45 = 0 then
      f12_newRule_b66 M45 86 (nI (98 + 7 * pR Q.1))
    else
      aO M45 86 12 <|
      cI (f12_isWord M45 86 (655 : Int32)) fun r55 M55 =>
      if r55 = 0 then
        aO M55 86 12 <|
        cV (f12_fails M55 86 (2 : Int32)) fun M63 =>
        f12_newRule_b66 M63 86 (nI (98 + 7 * pR Q.1))
      else
        f12_newRule_b66 M55 86 (nI (98 + 7 * pR Q.1))) := by
    unfold f12_newRule
    rw [aO_86 w, r_86_1 w, show (6 : Int32) = nI 6 from rfl, aA_87 w (by omega), nI_clamp (by omega), m6, show (98 : Int32) = nI 98 from rfl, show (7 : Int32) = nI 7 from rfl, nI_mulN, nI_add, bW_e, aO_86 w, a1, cV_some, aO_86 w1, aO_86 w1]
    rfl
  have st : ∀ (M' : MM) (v : Int32), Wl M' → (aA M' 89 0 (nI (98 + 7 * pR Q.1)) <| bM (sI M' 89 (nI (98 + 7 * pR Q.1)).toNatClampNeg v) fun M29 => aO M29 86 12 <| aO M29 86 12 <| cI (f12_oneOf M29 86 (nI 1) (nI 1)) fun r40 M40 =>
    aA M40 (mR M29 86 3) 0 (nI (98 + 7 * pR Q.1) + (1 : Int32)) <|
    bM (sI M40 (mR M29 86 3) (nI (98 + 7 * pR Q.1) + (1 : Int32)).toNatClampNeg r40) fun M43 =>
    aO M43 86 12 <|
    cI (f12_isGood M43 86) fun r45 M45 =>
    if r45 = 0 then
      f12_newRule_b66 M45 86 (nI (98 + 7 * pR Q.1))
    else
      aO M45 86 12 <|
      cI (f12_isWord M45 86 (655 : Int32)) fun r55 M55 =>
      if r55 = 0 then
        aO M55 86 12 <|
        cV (f12_fails M55 86 (2 : Int32)) fun M63 =>
        f12_newRule_b66 M63 86 (nI (98 + 7 * pR Q.1))
      else
        f12_newRule_b66 M55 86 (nI (98 + 7 * pR Q.1))) = (cI (f12_oneOf (w89 M' Q 0 v) 86 (nI 1) (nI 1)) fun r40 M40 =>
    aA M40 89 0 (nI (98 + 7 * pR Q.1 + 1)) <|
    bM (sI M40 89 (nI (98 + 7 * pR Q.1 + 1)).toNatClampNeg r40) fun M43 =>
    aO M43 86 12 <|
    cI (f12_isGood M43 86) fun r45 M45 =>
    if r45 = 0 then
      f12_newRule_b66 M45 86 (nI (98 + 7 * pR Q.1))
    else
      aO M45 86 12 <|
      cI (f12_isWord M45 86 (655 : Int32)) fun r55 M55 =>
      if r55 = 0 then
        aO M55 86 12 <|
        cV (f12_fails M55 86 (2 : Int32)) fun M63 =>
        f12_newRule_b66 M63 86 (nI (98 + 7 * pR Q.1))
      else
        f12_newRule_b66 M55 86 (nI (98 + 7 * pR Q.1))) := fun M' v w' => by
    have w2 : Wl (w89 M' Q 0 v) := w'
    rw [aA_89 w' (by omega), bM_e, sI_e, nI_clamp (by omega), show uI M' 89 (upx (mI M' 89) (98 + 7 * pR Q.1) v) = w89 M' Q 0 v from rfl, aO_86 w2, aO_86 w2, r_86_3 w2, nI_1]
  rw [hd]
  rcases SM_oneOf a3 (s := 0) (by omega) with ⟨e, M2, x1, x2, x3, x4, x5⟩ | ⟨k1, t2, M2, x1, x2, x3, x4, x5, x6⟩
  · have x1' : takeN L B Q.2.1 (pS Q.1) (nxt L B t) = .inl e := x1
    have b2 : BdM (w89 M2 Q 0 (-1)) e := x5.u (by decide) _
    have b3 : BdM (w89 (w89 M2 Q 0 (-1)) Q 1 0) e := b2.u (by decide) _
    obtain ⟨M', k1, k2, k3⟩ := bd_66 b3 (to := 98 + 7 * pR Q.1) (by omega) (by omega)
    rw [x2, cI_some, r_86_3 w1, st M2 (-1) x5.1, b_oneOf b2, cI_some, aA_89 b2.1 (by omega), bM_e, sI_e, nI_clamp (by omega), show uI (w89 M2 Q 0 (-1)) 89 (upx (mI (w89 M2 Q 0 (-1)) 89) (98 + 7 * pR Q.1 + 1) 0) = w89 (w89 M2 Q 0 (-1)) Q 1 0 from rfl, aO_86 b3.1, b_isGood b3, cI_some, if_pos rfl, k1, cV_some, b_109 k3]
    exact .inl ⟨e, M', by simp only [x1'], rfl, (((a2.trans x3).trans (w89_g _)).trans (w89_g _)).trans k2, k3⟩
  · have x1' : takeN L B Q.2.1 (pS Q.1) (nxt L B t) = .inr (k1, t2) := x1
    have h2 := (h1.nx x4 x5).set (c := 0) (nI k1)
    have g2 : GrM M (w89 M2 Q 0 (nI k1)) := (a2.trans x3).trans (w89_g _)
    rw [x2, cI_some, r_86_3 w1, st M2 _ x5.1]
    rcases SM_oneOf h2.1 (s := 1) (by omega) with ⟨e, M3, y1, y2, y3, y4, y5⟩ | ⟨k2, t3, M3, y1, y2, y3, y4, y5, y6⟩
    · have y1' : takeN L B Q.2.2 (pG Q.1) t2 = .inl e := y1
      have b3 : BdM (w89 M3 Q 1 (-1)) e := y5.u (by decide) _
      obtain ⟨M', k1', k2, k3⟩ := bd_66 b3 (to := 98 + 7 * pR Q.1) (by omega) (by omega)
      rw [y2, cI_some, aA_89 y5.1 (by omega), bM_e, sI_e, nI_clamp (by omega), show uI M3 89 (upx (mI M3 89) (98 + 7 * pR Q.1 + 1) (-1)) = w89 M3 Q 1 (-1) from rfl, aO_86 b3.1, b_isGood b3, cI_some, if_pos rfl, k1', cV_some, b_109 k3]
      exact .inl ⟨e, M', by simp only [x1', y1'], rfl, ((g2.trans y3).trans (w89_g _)).trans k2, k3⟩
    · have y1' : takeN L B Q.2.2 (pG Q.1) t2 = .inr (k2, t3) := y1
      have h3 := (h2.nx y4 y5).set (c := 1) (nI k2)
      have g3 : GrM M (w89 M3 Q 1 (nI k2)) := (g2.trans y3).trans (w89_g _)
      have w3 := h3.1.1
      obtain ⟨M4, hM4⟩ : ∃ M4, M4 = w89 M3 Q 1 (nI k2) := ⟨_, rfl⟩
      rw [← hM4] at h3 g3 w3
      rw [y2, cI_some, aA_89 y5.1 (by omega), bM_e, sI_e, nI_clamp (by omega), show uI M3 89 (upx (mI M3 89) (98 + 7 * pR Q.1 + 1) (nI k2)) = w89 M3 Q 1 (nI k2) from rfl, ← hM4, aO_86 w3, g_isGood h3.1, cI_some, if_neg (show ¬ (1 : Int32) = 0 by decide), aO_86 w3, show (655 : Int32) = nI (c5 kwT) from rfl, SM_isWordK h3.1 (by decide), cI_some]
      by_cases ct : isW t3 kwT = true
      · have z1 : toA L B t3 = .inr (nxt L B t3) := by unfold toA; rw [if_pos ct]
        obtain ⟨M5, d1, d2, d3, d4⟩ := g_goOn h3.1
        have h5 := h3.nx d4 d3
        have w5 := d3.1
        rw [ct, if_neg (show ¬ bI true = 0 by decide)]
        have hd66 : f12_newRule_b66 M4 86 (nI (98 + 7 * pR Q.1)) = (cI (f12_oneOf M5 86 (nI 1) (nI 0)) fun r80 M80 =>
          aA M80 89 0 (nI (98 + 7 * pR Q.1 + 2)) <|
          bM (sI M80 89 (nI (98 + 7 * pR Q.1 + 2)).toNatClampNeg r80) fun M83 =>
          aO M83 86 12 <|
          aA M83 (mR M83 86 3) 0 (nI (98 + 7 * pR Q.1) + (4 : Int32)) <|
          bM (sI M83 (mR M83 86 3) (nI (98 + 7 * pR Q.1) + (4 : Int32)).toNatClampNeg (-1 : Int32)) fun M94 =>
          aO M94 86 12 <|
          aA M94 (mR M94 86 3) 0 (nI (98 + 7 * pR Q.1) + (5 : Int32)) <|
          bM (sI M94 (mR M94 86 3) (nI (98 + 7 * pR Q.1) + (5 : Int32)).toNatClampNeg (-1 : Int32)) fun M103 =>
          f12_newRule_b104 M103 86 (nI (98 + 7 * pR Q.1)) (0 : Int32)) := by
          unfold f12_newRule_b66
          rw [aO_86 w3, d1, cV_some, aO_86 w5, aO_86 w5, r_86_3 w5, show (2 : Int32) = nI 2 from rfl, nI_add]
          rfl
        have st2 : ∀ (M' : MM) (v : Int32), Wl M' → (aA M' 89 0 (nI (98 + 7 * pR Q.1 + 2)) <|
          bM (sI M' 89 (nI (98 + 7 * pR Q.1 + 2)).toNatClampNeg v) fun M83 =>
          aO M83 86 12 <|
          aA M83 (mR M83 86 3) 0 (nI (98 + 7 * pR Q.1) + (4 : Int32)) <|
          bM (sI M83 (mR M83 86 3) (nI (98 + 7 * pR Q.1) + (4 : Int32)).toNatClampNeg (-1 : Int32)) fun M94 =>
          aO M94 86 12 <|
          aA M94 (mR M94 86 3) 0 (nI (98 + 7 * pR Q.1) + (5 : Int32)) <|
          bM (sI M94 (mR M94 86 3) (nI (98 + 7 * pR Q.1) + (5 : Int32)).toNatClampNeg (-1 : Int32)) fun M103 =>
          f12_newRule_b104 M103 86 (nI (98 + 7 * pR Q.1)) (0 : Int32)) = f12_newRule_b104 (w89 (w89 (w89 M' Q 2 v) Q 4 (-1)) Q 5 (-1)) 86 (nI (98 + 7 * pR Q.1)) 0 := fun M' v w' => by
          have wa : Wl (w89 M' Q 2 v) := w'
          have wb : Wl (w89 (w89 M' Q 2 v) Q 4 (-1)) := w'
          rw [aA_89 w' (by omega), bM_e, sI_e, nI_clamp (by omega), show uI M' 89 (upx (mI M' 89) (98 + 7 * pR Q.1 + 2) v) = w89 M' Q 2 v from rfl, aO_86 wa, r_86_3 wa, show (4 : Int32) = nI 4 from rfl, nI_add, aA_89 wa (by omega), bM_e, sI_e, nI_clamp (by omega), show uI (w89 M' Q 2 v) 89 (upx (mI (w89 M' Q 2 v) 89) (98 + 7 * pR Q.1 + 4) (-1)) = w89 (w89 M' Q 2 v) Q 4 (-1) from rfl, aO_86 wb, r_86_3 wb, show (5 : Int32) = nI 5 from rfl, nI_add, aA_89 wb (by omega), bM_e, sI_e, nI_clamp (by omega)]
          rfl
        rw [hd66]
        rcases SM_oneOf d3 (s := 0) (by omega) with ⟨e, M6, u1, u2, u3, u4, u5⟩ | ⟨k3, t5, M6, u1, u2, u3, u4, u5, u6⟩
        · have u1' : takeN L B Q.2.1 (pS Q.1) (nxt L B t3) = .inl e := u1
          have b6 : BdM (w89 (w89 (w89 M6 Q 2 (-1)) Q 4 (-1)) Q 5 (-1)) e := ((u5.u (by decide) _).u (by decide) _).u (by decide) _
          obtain ⟨f, hf⟩ : ∃ f, FU = f + 1 := ⟨FU - 1, by have : (8 : Nat) < FU := FU_big (by omega); omega⟩
          obtain ⟨M', k1', k2', k3'⟩ := bd_104 b6 (to := 98 + 7 * pR Q.1) (by omega) (by omega) 0 f
          rw [← hf] at k1'
          have k1'' : f12_newRule_b104 (w89 (w89 (w89 M6 Q 2 (-1)) Q 4 (-1)) Q 5 (-1)) 86 (nI (98 + 7 * pR Q.1)) 0 = some M' := k1'
          rw [u2, cI_some, st2 M6 (-1) u5.1, k1'', cV_some, b_109 k3']
          exact .inl ⟨e, M', by simp only [x1', y1', z1, u1'], rfl, (((((g3.trans d2).trans u3).trans (w89_g _)).trans (w89_g _)).trans (w89_g _)).trans k2', k3'⟩
        · have u1' : takeN L B Q.2.1 (pS Q.1) (nxt L B t3) = .inr (k3, t5) := u1
          have h6 := (((h5.nx u4 u5).set (c := 2) (nI k3)).set (c := 4) (-1)).set (c := 5) (-1)
          have g6 : GrM M (w89 (w89 (w89 M6 Q 2 (nI k3)) Q 4 (-1)) Q 5 (-1)) := ((((g3.trans d2).trans u3).trans (w89_g _)).trans (w89_g _)).trans (w89_g _)
          rw [u2, cI_some, st2 M6 _ u5.1]
          rcases LM_rs104 2 0 (by omega) h6 hR FU (FU_big (by omega)) with ⟨e, M7, v1, v2, v3, v4⟩ | ⟨l, t6, M7, v1, v2, v3, v4⟩
          · have v2' : f12_newRule_b104 (w89 (w89 (w89 M6 Q 2 (nI k3)) Q 4 (-1)) Q 5 (-1)) 86 (nI (98 + 7 * pR Q.1)) 0 = some M7 := v2
            rw [v2', cV_some, b_109 v4]
            exact .inl ⟨e, M7, by simp only [x1', y1', z1, u1', v1], rfl, g6.trans v3, v4⟩
          · have v2' : f12_newRule_b104 (w89 (w89 (w89 M6 Q 2 (nI k3)) Q 4 (-1)) Q 5 (-1)) 86 (nI (98 + 7 * pR Q.1)) 0 = _ := v2
            rw [v2', Nat.zero_add]
            obtain ⟨ll, lx, -⟩ := sgA_g u5.2.2.2.1 v1
            have g7 := g6.trans v3
            rcases g_145 v4 hR l.length with ⟨e, M8, q1, q2, q3, q4⟩ | ⟨v, t7, M8, q1, q2, q3, q4⟩
            · rw [q2, cV_some, b_109 q4]
              exact .inl ⟨e, M8, by simp only [x1', y1', z1, u1', v1, q1], rfl, g7.trans q3, q4⟩
            · obtain ⟨-, -, vv1, vv2⟩ := costA_g v4.1.2.2.2.1 q1
              have wq' : WQ (addR Q k1 k2 k3 l v) := addR_w wq hR x6 y6 u6 ll lx vv1 vv2
              obtain ⟨M9, o1, o2, o3⟩ := TsR.add (Q := Q) (ρ := fun c => mI M1 89 (98 + 7 * pR Q.1 + c)) (p := k1) (b := k2) (c := k3) (l := l) (v := v) q4 ll wq'
              rw [q2, o1, cV_some]
              rcases g_109 o3 with ⟨e, M10, s1, s2, s3, s4⟩ | ⟨t8, M10, s1, s2, s3, s4⟩
              · exact .inl ⟨e, M10, by simp only [x1', y1', z1, u1', v1, q1, s1], s2, ((g7.trans q3).trans o2).trans s3, s4⟩
              · exact .inr ⟨_, t8, M10, by simp only [x1', y1', z1, u1', v1, q1, s1], s2, ((g7.trans q3).trans o2).trans s3, s4⟩
      · have z1 : toA L B t3 = .inl (refA t3) := by unfold toA; rw [if_neg ct]
        obtain ⟨M5, d1, d2, d3, d4⟩ := g_fails h3.1 (k := 2) (by omega) (by omega)
        obtain ⟨M', k1', k2', k3'⟩ := bd_66 d3 (to := 98 + 7 * pR Q.1) (by omega) (by omega)
        rw [Bool.not_eq_true] at ct
        rw [ct, if_pos (show bI false = 0 from rfl), aO_86 w3, show (2 : Int32) = nI 2 from rfl, d1, cV_some, k1', cV_some, b_109 k3']
        exact .inl ⟨_, M', by simp only [x1', y1', z1]; rfl, rfl, (g3.trans d2).trans k2', k3'⟩
end RULEM2
