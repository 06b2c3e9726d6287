/-! READING at the reference: rules -/
section RULEM
variable {L : Nat} {B : Nat → Nat} {Q : QG} {t : TK} {e : Nat × Nat}
theorem bd_235 {M : MM} (h : BdM M e) : ∃ M', f12_newRule_b235 M 86 = some M' ∧ GrM M M' ∧ BdM M' e := by
  have w := h.1
  refine ⟨_, ?_, gr_87 (i := 6) (by omega) (mI M 87 6 + 1), h.u (by decide) _⟩
  unfold f12_newRule_b235
  rw [aO_86 w, r_86_1 w, show (6 : Int32) = nI 6 from rfl, aA_87 w (by omega), aA_87 w (by omega), bM_e, sI_e, nI_clamp (by omega)]
theorem bd_145 {M : MM} (h : BdM M e) {to : Nat} (h1 : 98 ≤ to) (h2 : to ≤ 189) (x : Int32) : ∃ M', f12_newRule_b145 M 86 (nI to) x = some M' ∧ GrM M M' ∧ BdM M' e := by
  have w := h.1
  have b1 := h.u (x := 89) (by decide) (upx (mI M 89) (to + 3) x)
  have w1 := b1.1
  obtain ⟨M1, hM1⟩ : ∃ M1, M1 = uI M 89 (upx (mI M 89) (to + 3) x) := ⟨_, rfl⟩
  have g1 : GrM M M1 := by rw [hM1]; exact gr_89 (by omega) _
  rw [← hM1] at b1 w1
  have b2 := b1.u (x := 89) (by decide) (upx (mI M1 89) (to + 6) 1)
  obtain ⟨M2, hM2⟩ : ∃ M2, M2 = uI M1 89 (upx (mI M1 89) (to + 6) 1) := ⟨_, rfl⟩
  have g2 : GrM M1 M2 := by rw [hM2]; exact gr_89 (by omega) _
  rw [← hM2] at b2
  have w2 := b2.1
  obtain ⟨M', k1, k2, k3⟩ := bd_235 b2
  refine ⟨M', ?_, (g1.trans g2).trans k2, k3⟩
  unfold f12_newRule_b145
  rw [aO_86 w, r_86_3 w, show (3 : Int32) = nI 3 from rfl, nI_add, aA_89 w (by omega), bM_e, sI_e, nI_clamp (by omega), ← hM1, aO_86 w1, r_86_3 w1, show (6 : Int32) = nI 6 from rfl, nI_add, aA_89 w1 (by omega), bM_e, sI_e, nI_clamp (by omega), ← hM2, aO_86 w2, b_isGood b2, cI_some, if_pos rfl, k1]
theorem bd_104 {M : MM} (h : BdM M e) {to : Nat} (h1 : 98 ≤ to) (h2 : to ≤ 189) (x : Int32) (f : Nat) : ∃ M', LP4 f12_newRule_b104_body (f + 1) M 86 (nI to) x = some M' ∧ GrM M M' ∧ BdM M' e := by
  have w := h.1
  obtain ⟨M', k1, k2, k3⟩ := bd_145 h h1 h2 x
  refine ⟨M', ?_, k2, k3⟩
  rw [LP4_s]
  generalize LP4 f12_newRule_b104_body f = K
  unfold f12_newRule_b104_body
  rw [aO_86 w, b_isGood h, cI_some, if_pos rfl, k1]
theorem bd_66 {M : MM} (h : BdM M e) {to : Nat} (h1 : 98 ≤ to) (h2 : to ≤ 189) : ∃ M', f12_newRule_b66 M 86 (nI to) = some M' ∧ GrM M M' ∧ BdM M' e := by
  have w := h.1
  obtain ⟨M1, hM1⟩ : ∃ M1, M1 = uI M 89 (upx (mI M 89) (to + 2) 0) := ⟨_, rfl⟩
  have g1 : GrM M M1 := by rw [hM1]; exact gr_89 (by omega) _
  have b1 : BdM M1 e := by rw [hM1]; exact h.u (by decide) _
  have w1 := b1.1
  obtain ⟨M2, hM2⟩ : ∃ M2, M2 = uI M1 89 (upx (mI M1 89) (to + 4) (-1)) := ⟨_, rfl⟩
  have g2 : GrM M1 M2 := by rw [hM2]; exact gr_89 (by omega) _
  have b2 : BdM M2 e := by rw [hM2]; exact b1.u (by decide) _
  have w2 := b2.1
  obtain ⟨M3, hM3⟩ : ∃ M3, M3 = uI M2 89 (upx (mI M2 89) (to + 5) (-1)) := ⟨_, rfl⟩
  have g3 : GrM M2 M3 := by rw [hM3]; exact gr_89 (by omega) _
  have b3 : BdM M3 e := by rw [hM3]; exact b2.u (by decide) _
  obtain ⟨f, hf⟩ : ∃ f, FU = f + 1 := ⟨FU - 1, by have : (8 : Nat) < FU := FU_big (by omega); omega⟩
  obtain ⟨M', k1, k2, k3⟩ := bd_104 b3 h1 h2 0 f
  refine ⟨M', ?_, ((g1.trans g2).trans g3).trans k2, k3⟩
  rw [← hf] at k1
  unfold f12_newRule_b66
  rw [aO_86 w, b_goOn h, cV_some, aO_86 w, aO_86 w, b_oneOf h, cI_some, r_86_3 w, show (2 : Int32) = nI 2 from rfl, nI_add, aA_89 w (by omega), bM_e, sI_e, nI_clamp (by omega), ← hM1, aO_86 w1, r_86_3 w1, show (4 : Int32) = nI 4 from rfl, nI_add, aA_89 w1 (by omega), bM_e, sI_e, nI_clamp (by omega), ← hM2, aO_86 w2, r_86_3 w2, show (5 : Int32) = nI 5 from rfl, nI_add, aA_89 w2 (by omega), bM_e, sI_e, nI_clamp (by omega), ← hM3]
  exact k1
/-- a cell of the rule that is read -/
def w89 (M : MM) (Q : QG) (c : Nat) (v : Int32) : MM := uI M 89 (upx (mI M 89) (98 + 7 * pR Q.1 + c) v)
theorem w89_g {M : MM} {c : Nat} (v : Int32) : GrM M (w89 M Q c v) := gr_89 (by omega) _
theorem TsM.rule {M : MM} (h : TsM M 1 L B Q t) {c : Nat} (v : Int32) : TsM (w89 M Q c v) 1 L B Q t := by
  obtain ⟨w, tp, tk, g, h15, ⟨b2, p1, p2, p3, p4, p5, p6, p7, p8⟩, wq⟩ := h
  have e : ∀ x, x ≠ 89 → mI (w89 M Q c v) x = mI M x := fun x hx => by unfold w89; rw [mI_uI, if_neg hx]
  have e9 : mI (w89 M Q c v) 89 = upx (mI M 89) (98 + 7 * pR Q.1 + c) v := by unfold w89; rw [mI_uI, if_pos rfl]
  refine ⟨w, ?_, ?_, g, ?_, ⟨b2, ?_, ?_, ?_, ?_, ?_, ?_, fun r hr c' hc' => ?_, ?_⟩, wq⟩
  · unfold TpM
    rw [e 86 (by decide), e 91 (by decide)]
    exact tp
  · unfold TkM
    rw [e 86 (by decide)]
    exact tk
  · rw [e 86 (by decide)]; exact h15
  · rw [e 87 (by decide)]; exact p1
  · rw [e 87 (by decide)]; exact p2
  · rw [e 87 (by decide)]; exact p3
  · rw [e 87 (by decide)]; exact p4
  · rw [e 88 (by decide)]; exact p5
  · rw [e 88 (by decide)]; exact p6
  · rw [e9, upx_e, if_neg (by omega)]; exact p7 r hr c' hc'
  · rw [e 90 (by decide)]; exact p8
def TsR (M : MM) (L : Nat) (B : Nat → Nat) (Q : QG) (t : TK) (ρ : Nat → Int32) : Prop := TsM M 1 L B Q t ∧ ∀ c, c < 7 → mI M 89 (98 + 7 * pR Q.1 + c) = ρ c
theorem TsR.set {M : MM} {ρ : Nat → Int32} (h : TsR M L B Q t ρ) {c : Nat} (v : Int32) : TsR (w89 M Q c v) L B Q t (upx ρ c v) := ⟨h.1.rule v, fun c' hc' => by
  unfold w89
  rw [mI_uI, if_pos rfl, upx_e, upx_e]
  by_cases e : c' = c
  · rw [if_pos (by omega), if_pos e]
  · rw [if_neg (by omega), if_neg e]
    exact h.2 c' hc'⟩
theorem TsR.nx {M M' : MM} {ρ : Nat → Int32} {t' : TK} (h : TsR M L B Q t ρ) (s : Sm [86] [] M M') (h' : TsM M' 1 L B Q t') : TsR M' L B Q t' ρ := ⟨h', fun c hc => by
  rw [s.i 89 (by decide)]
  exact h.2 c hc⟩
theorem LM_rs104 : ∀ (m i : Nat) {M : MM} {ρ : Nat → Int32} {t : TK}, i + m = 2 → TsR M L B Q t ρ → pR Q.1 < 14 → ∀ f, m + 1 < f → (∃ e M', sgA L B Q.2.2 (pG Q.1) m t = .inl e ∧ LP4 f12_newRule_b104_body f M 86 (nI (98 + 7 * pR Q.1)) (nI i) = some M' ∧ GrM M M' ∧ BdM M' e) ∨ (∃ l t' M', sgA L B Q.2.2 (pG Q.1) m t = .inr (l, t') ∧ LP4 f12_newRule_b104_body f M 86 (nI (98 + 7 * pR Q.1)) (nI i) = f12_newRule_b145 M' 86 (nI (98 + 7 * pR Q.1)) (nI (i + l.length)) ∧ GrM M M' ∧ TsR M' L B Q t' (wrL ρ (4 + i) l))
  | m, i, M, ρ, t, hi, h, hR, 0, hf => absurd hf (Nat.not_lt_zero _)
  | 0, i, M, ρ, t, hi, h, hR, f + 1, _ => by
    have w := h.1.1
    refine .inr ⟨[], t, M, rfl, ?_, GrM.rfl M, h⟩
    rw [LP4_s]
    generalize LP4 f12_newRule_b104_body f = K
    unfold f12_newRule_b104_body
    rw [aO_86 w, g_isGood h.1, cI_some, if_neg (show ¬ (1 : Int32) = 0 by decide), aO_86 w, SM_isName h.1, cI_some]
    cases isN t with
    | false => rw [if_pos (show bI false = 0 from rfl)]; rfl
    | true =>
      rw [if_neg (show ¬ bI true = 0 by decide), show (2 : Int32) = nI 2 from rfl, if_pos (nI_le (by omega) (by omega))]
      rfl
  | m + 1, i, M, ρ, t, hi, h, hR, f + 1, hf => by
    have w := h.1.1
    have sg : sgA L B Q.2.2 (pG Q.1) (m + 1) t = if isN t = true then (match takeN L B Q.2.2 (pG Q.1) t with | .inl e => .inl e | .inr (k, t1) => match sgA L B Q.2.2 (pG Q.1) m t1 with | .inl e => .inl e | .inr (l, t2) => .inr (k :: l, t2)) else .inr ([], t) := rfl
    rw [sg]
    by_cases c : isN t = true
    · rw [if_pos c]
      have head : ∀ v M1, f12_oneOf M 86 (nI 1) (nI 1) = some (v, M1) → Wl M1 → LP4 f12_newRule_b104_body (f + 1) M 86 (nI (98 + 7 * pR Q.1)) (nI i) = LP4 f12_newRule_b104_body f (w89 M1 Q (4 + i) v) 86 (nI (98 + 7 * pR Q.1)) (nI (i + 1)) := fun v M1 hv w1 => by
        rw [LP4_s]
        generalize LP4 f12_newRule_b104_body f = K
        unfold f12_newRule_b104_body
        rw [aO_86 w, g_isGood h.1, cI_some, if_neg (show ¬ (1 : Int32) = 0 by decide), aO_86 w, SM_isName h.1, cI_some, c, if_neg (show ¬ bI true = 0 by decide), show (2 : Int32) = nI 2 from rfl, if_neg (nI_ge (by omega) (by omega)), aO_86 w, aO_86 w, show (1 : Int32) = nI 1 from rfl, hv, cI_some, r_86_3 w, show (4 : Int32) = nI 4 from rfl, nI_add, nI_add, aA_89 w1 (by omega), bM_e, sI_e, nI_clamp (by omega), nI_add, show 98 + 7 * pR Q.1 + 4 + i = 98 + 7 * pR Q.1 + (4 + i) by omega]
        rfl
      rcases SM_oneOf h.1 (s := 1) (by omega) with ⟨e, M1, x1, x2, x3, x4, x5⟩ | ⟨k, t1, M1, x1, x2, x3, x4, x5, x6⟩
      · have x1' : takeN L B Q.2.2 (pG Q.1) t = .inl e := x1
        have b2 : BdM (w89 M1 Q (4 + i) (-1)) e := x5.u (by decide) _
        obtain ⟨f', hf'⟩ : ∃ f', f = f' + 1 := ⟨f - 1, by omega⟩
        obtain ⟨M', k1, k2, k3⟩ := bd_104 b2 (to := 98 + 7 * pR Q.1) (by omega) (by omega) (nI (i + 1)) f'
        refine .inl ⟨e, M', by rw [x1'], ?_, (x3.trans (w89_g _)).trans k2, k3⟩
        rw [head _ _ x2 x5.1, hf', k1]
      · have x1' : takeN L B Q.2.2 (pG Q.1) t = .inr (k, t1) := x1
        have h2 := (h.nx x4 x5).set (c := 4 + i) (nI k)
        have hd := head _ _ x2 x5.1
        rcases LM_rs104 m (i + 1) (by omega) h2 hR f (by omega) with ⟨e, M2, y1, y2, y3, y4⟩ | ⟨l, t2, M2, y1, y2, y3, y4⟩
        · exact .inl ⟨e, M2, by rw [x1']; simp only [y1], by rw [hd]; exact y2, (x3.trans (w89_g _)).trans y3, y4⟩
        · refine .inr ⟨k :: l, t2, M2, by rw [x1']; simp only [y1], ?_, (x3.trans (w89_g _)).trans y3, y4⟩
          rw [hd, y2]
          show _ = f12_newRule_b145 M2 86 (nI (98 + 7 * pR Q.1)) (nI (i + (l.length + 1)))
          rw [show i + (l.length + 1) = i + 1 + l.length by omega]
    · rw [if_neg c]
      rw [Bool.not_eq_true] at c
      refine .inr ⟨[], t, M, rfl, ?_, GrM.rfl M, h⟩
      rw [LP4_s]
      generalize LP4 f12_newRule_b104_body f = K
      unfold f12_newRule_b104_body
      rw [aO_86 w, g_isGood h.1, cI_some, if_neg (show ¬ (1 : Int32) = 0 by decide), aO_86 w, SM_isName h.1, cI_some, c, if_pos (show bI false = 0 from rfl)]
      rfl
/-- from a rule's signs on -/
theorem g_145 {M : MM} {ρ : Nat → Int32} (h : TsR M L B Q t ρ) (hR : pR Q.1 < 14) (n : Nat) : (∃ e M', costA L B t = .inl e ∧ f12_newRule_b145 M 86 (nI (98 + 7 * pR Q.1)) (nI n) = some M' ∧ GrM M M' ∧ BdM M' e) ∨ (∃ v t' M', costA L B t = .inr (v, t') ∧ f12_newRule_b145 M 86 (nI (98 + 7 * pR Q.1)) (nI n) = f12_newRule_b235 M' 86 ∧ GrM M M' ∧ TsR M' L B Q t' (upx (upx ρ 3 (nI n)) 6 (nI v))) := by
  have w := h.1.1
  have h1 := h.set (c := 3) (nI n)
  have w1 := h1.1.1
  have h2 := h1.set (c := 6) 1
  have w2 := h2.1.1
  obtain ⟨M2, hM2⟩ : ∃ M2, M2 = w89 (w89 M Q 3 (nI n)) Q 6 1 := ⟨_, rfl⟩
  have g2 : GrM M M2 := by rw [hM2]; exact (w89_g _).trans (w89_g _)
  rw [← hM2] at h2 w2
  have hd : f12_newRule_b145 M 86 (nI (98 + 7 * pR Q.1)) (nI n) = (cI (f12_isGood M2 86) fun r165 M165 =>
      if r165 = 0 then
        f12_newRule_b235 M165 86
      else
        aO M165 86 12 <|
        cI (f12_isWord M165 86 (114292 : Int32)) fun r174 M174 =>
        if r174 = 0 then
          f12_newRule_b235 M174 86
        else
          aO M174 86 12 <|
          cV (f12_nextToken M174 86) fun M181 =>
          aO M181 86 12 <|
          if (mI M181 86 11) = (2 : Int32) then
            aO M181 86 12 <|
            cI (f12_in M181 (mI M181 86 12) (1 : Int32) (99 : Int32)) fun r207 M207 =>
            if r207 = 0 then
              aO M207 86 12 <|
              cV (f12_fails M207 86 (4 : Int32)) fun M215 =>
              (f12_newRule_b218 f12_newRule_b235) M215 86 (nI (98 + 7 * pR Q.1))
            else
              (f12_newRule_b218 f12_newRule_b235) M207 86 (nI (98 + 7 * pR Q.1))
          else
            aO M181 86 12 <|
            cV (f12_fails M181 86 (2 : Int32)) fun M194 =>
            (f12_newRule_b218 f12_newRule_b235) M194 86 (nI (98 + 7 * pR Q.1))) := by
    unfold f12_newRule_b145
    rw [aO_86 w, r_86_3 w, show (3 : Int32) = nI 3 from rfl, nI_add, aA_89 w (by omega), bM_e, sI_e, nI_clamp (by omega), show uI M 89 (upx (mI M 89) (98 + 7 * pR Q.1 + 3) (nI n)) = w89 M Q 3 (nI n) from rfl, aO_86 w1, r_86_3 w1, show (6 : Int32) = nI 6 from rfl, nI_add, aA_89 w1 (by omega), bM_e, sI_e, nI_clamp (by omega), show uI (w89 M Q 3 (nI n)) 89 (upx (mI (w89 M Q 3 (nI n)) 89) (98 + 7 * pR Q.1 + 6) 1) = w89 (w89 M Q 3 (nI n)) Q 6 1 from rfl, ← hM2, aO_86 w2]
  rw [hd, g_isGood h2.1, cI_some, if_neg (show ¬ (1 : Int32) = 0 by decide), aO_86 w2, show (114292 : Int32) = nI (c5 kwC) from rfl, SM_isWordK h2.1 (by decide), cI_some]
  unfold costA
  by_cases c : isW t kwC = true
  · obtain ⟨M3, a1, a2, a3, a4⟩ := h2.1.take
    have h3 := h2.nx a4 a3
    have w3 := a3.1
    have k4 := a3.2.2.2.1.2.2.2.1
    rw [if_pos c, c, if_neg (show ¬ bI true = 0 by decide), aO_86 w2, a1, cV_some, aO_86 w3, a3.2.2.1.2.1]
    have bad : ∀ {M' : MM} {e : Nat × Nat}, BdM M' e → ∃ M'', (f12_newRule_b218 f12_newRule_b235) M' 86 (nI (98 + 7 * pR Q.1)) = some M'' ∧ GrM M' M'' ∧ BdM M'' e := fun {M' e} hb => by
      have w' := hb.1
      have b2 : BdM (w89 M' Q 6 (mI M' 86 12)) e := hb.u (by decide) _
      obtain ⟨M'', k1, k2, k3⟩ := bd_235 b2
      refine ⟨M'', ?_, (w89_g _).trans k2, k3⟩
      unfold f12_newRule_b218
      rw [aO_86 w', aO_86 w', r_86_3 w', show (6 : Int32) = nI 6 from rfl, nI_add, aA_89 w' (by omega), bM_e, sI_e, nI_clamp (by omega), show uI M' 89 (upx (mI M' 89) (98 + 7 * pR Q.1 + 6) (mI M' 86 12)) = w89 M' Q 6 (mI M' 86 12) from rfl, aO_86 b2.1, b_goOn b2, cV_some, k1]
    by_cases c1 : tkK (nxt L B t) = 3
    · have v9 := a3.2.2.2.1.2.2.2.2.2 c1
      have nt : ¬ tkK (nxt L B t) = 1 := by omega
      rw [if_pos ((kmm_2 _ k4).mpr c1), if_pos c1, aO_86 w3, a3.2.2.1.2.2.2.2 c1, SM_in, cI_some]
      by_cases c2 : 1 ≤ tkV (nxt L B t) ∧ tkV (nxt L B t) ≤ 99
      · have in1 : (!decide (nI (tkV (nxt L B t)) < (1 : Int32)) && !decide ((99 : Int32) < nI (tkV (nxt L B t)))) = true := by
          have l1 : ¬ nI (tkV (nxt L B t)) < (1 : Int32) := by
            rw [show (1 : Int32) = nI 1 from rfl, c_lt (by omega) (by omega)]
            omega
          have l2 : ¬ (99 : Int32) < nI (tkV (nxt L B t)) := by
            rw [show (99 : Int32) = nI 99 from rfl, c_lt (by omega) (by omega)]
            omega
          rw [decide_eq_false l1, decide_eq_false l2]
          rfl
        have h4 := h3.set (c := 6) (nI (tkV (nxt L B t)))
        have w4 := h4.1.1
        obtain ⟨M5, d1, d2, d3, d4⟩ := g_goOn h4.1
        rw [in1, if_neg (show ¬ bI true = 0 by decide), if_pos c2]
        refine .inr ⟨_, _, M5, rfl, ?_, (g2.trans a2).trans ((w89_g _).trans d2), ?_⟩
        · unfold f12_newRule_b218
          rw [aO_86 w3, aO_86 w3, r_86_3 w3, show (6 : Int32) = nI 6 from rfl, nI_add, aA_89 w3 (by omega), bM_e, sI_e, nI_clamp (by omega), a3.2.2.1.2.2.2.2 c1, show uI M3 89 (upx (mI M3 89) (98 + 7 * pR Q.1 + 6) (nI (tkV (nxt L B t)))) = w89 M3 Q 6 (nI (tkV (nxt L B t))) from rfl, aO_86 w4, d1, cV_some]
        · have := h4.nx d4 d3
          rw [upx_upx] at this
          exact this
      · have in0 : (!decide (nI (tkV (nxt L B t)) < (1 : Int32)) && !decide ((99 : Int32) < nI (tkV (nxt L B t)))) = false := by
          by_cases lo : tkV (nxt L B t) < 1
          · have l1 : nI (tkV (nxt L B t)) < (1 : Int32) := by
              rw [show (1 : Int32) = nI 1 from rfl, c_lt (by omega) (by omega)]
              omega
            rw [decide_eq_true l1]
            rfl
          · have l2 : (99 : Int32) < nI (tkV (nxt L B t)) := by
              rw [show (99 : Int32) = nI 99 from rfl, c_lt (by omega) (by omega)]
              omega
            rw [decide_eq_true l2, Bool.not_true, Bool.and_false]
        obtain ⟨M4, b1, b2, b3, b4⟩ := g_fails a3 (k := 4) (by omega) (by omega)
        rw [if_neg nt] at b3
        obtain ⟨M5, f1, f2, f3⟩ := bad b3
        rw [in0, if_pos (show bI false = 0 from rfl), if_neg c2, aO_86 w3, show (4 : Int32) = nI 4 from rfl, b1, cV_some, f1]
        exact .inl ⟨_, M5, rfl, rfl, ((g2.trans a2).trans b2).trans f2, f3⟩
    · obtain ⟨M4, b1, b2, b3, b4⟩ := g_fails a3 (k := 2) (by omega) (by omega)
      obtain ⟨M5, f1, f2, f3⟩ := bad b3
      rw [if_neg (fun z => c1 ((kmm_2 _ k4).mp z)), if_neg c1, aO_86 w3, show (2 : Int32) = nI 2 from rfl, b1, cV_some, f1]
      exact .inl ⟨_, M5, rfl, rfl, ((g2.trans a2).trans b2).trans f2, f3⟩
  · rw [if_neg c]
    rw [Bool.not_eq_true] at c
    rw [c, if_pos (show bI false = 0 from rfl)]
    exact .inr ⟨1, t, M2, rfl, rfl, g2, h2⟩
end RULEM
