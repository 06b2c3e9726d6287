/-! READING at the reference: goals -/
section GOALM
variable {L : Nat} {B : Nat → Nat} {Q : QG} {t : TK} {e : Nat × Nat}
theorem bk_120 {M : MM} (h : BdM M e) : ∃ M', f12_newGoal_b120 M 86 = some M' ∧ GrM M M' ∧ BdM M' e := by
  have w := h.1
  refine ⟨_, ?_, gr_87 (i := 7) (by omega) (mI M 87 7 + 1), h.u (by decide) _⟩
  unfold f12_newGoal_b120
  rw [aO_86 w, r_86_1 w, show (7 : Int32) = nI 7 from rfl, aA_87 w (by omega), aA_87 w (by omega), bM_e, sI_e, nI_clamp (by omega)]
theorem bk_73 {M : MM} (h : BdM M e) {to : Nat} (h1 : 24 ≤ to) (h2 : to ≤ 42) (x : Int32) : ∃ M', f12_newGoal_b73 M 86 (nI to) x = some M' ∧ GrM M M' ∧ BdM M' e := by
  have w := h.1
  have b1 := h.u (x := 90) (by decide) (upx (mI M 90) (to + 1) x)
  have w1 := b1.1
  obtain ⟨M1, hM1⟩ : ∃ M1, M1 = uI M 90 (upx (mI M 90) (to + 1) x) := ⟨_, rfl⟩
  have g1 : GrM M M1 := by rw [hM1]; exact gr_90 (by omega) _
  rw [← hM1] at b1 w1
  have b2 := b1.u (x := 90) (by decide) (upx (mI M1 90) (to + 2) 0)
  obtain ⟨M2, hM2⟩ : ∃ M2, M2 = uI M1 90 (upx (mI M1 90) (to + 2) 0) := ⟨_, rfl⟩
  have g2 : GrM M1 M2 := by rw [hM2]; exact gr_90 (by omega) _
  rw [← hM2] at b2
  have w2 := b2.1
  obtain ⟨M', k1, k2, k3⟩ := bk_120 b2
  refine ⟨M', ?_, (g1.trans g2).trans k2, k3⟩
  unfold f12_newGoal_b73
  rw [aO_86 w, r_86_4 w, nI_1, aA_90 w (by omega), bM_e, sI_e, nI_clamp (by omega), ← hM1, aO_86 w1, r_86_4 w1, show (2 : Int32) = nI 2 from rfl, nI_add, aA_90 w1 (by omega), bM_e, sI_e, nI_clamp (by omega), ← hM2, aO_86 w2, b_isGood b2, cI_some, if_pos rfl, k1]
theorem bk_32 {M : MM} (h : BdM M e) {to : Nat} (h1 : 24 ≤ to) (h2 : to ≤ 42) (x : Int32) (f : Nat) : ∃ M', LP4 f12_newGoal_b32_body (f + 1) M 86 (nI to) x = some M' ∧ GrM M M' ∧ BdM M' e := by
  have w := h.1
  obtain ⟨M', k1, k2, k3⟩ := bk_73 h h1 h2 x
  refine ⟨M', ?_, k2, k3⟩
  rw [LP4_s]
  generalize LP4 f12_newGoal_b32_body f = K
  unfold f12_newGoal_b32_body
  rw [aO_86 w, b_isGood h, cI_some, if_pos rfl, k1]
def w90 (M : MM) (Q : QG) (c : Nat) (v : Int32) : MM := uI M 90 (upx (mI M 90) (24 + 6 * pK Q.1 + c) v)
theorem w90_g {M : MM} {c : Nat} (v : Int32) : GrM M (w90 M Q c v) := gr_90 (by omega) _
theorem TsM.goalc {M : MM} (h : TsM M 1 L B Q t) {c : Nat} (v : Int32) : TsM (w90 M Q c v) 1 L B Q t := by
  obtain ⟨w, tp, tk, g, h15, ⟨b2, p1, p2, p3, p4, p5, p6, p7, p8⟩, wq⟩ := h
  have e : ∀ x, x ≠ 90 → mI (w90 M Q c v) x = mI M x := fun x hx => by unfold w90; rw [mI_uI, if_neg hx]
  have e9 : mI (w90 M Q c v) 90 = upx (mI M 90) (24 + 6 * pK Q.1 + c) v := by unfold w90; rw [mI_uI, if_pos rfl]
  refine ⟨w, ?_, ?_, g, ?_, ⟨b2, ?_, ?_, ?_, ?_, ?_, ?_, ?_, fun k hk c' hc' => ?_⟩, wq⟩
  · unfold TpM
    rw [e 86 (by decide), e 91 (by decide)]
    exact tp
  · unfold TkM
    rw [e 86 (by decide)]
    exact tk
  · rw [e 86 (by decide)]; exact h15
  · rw [e 87 (by decide)]; exact p1
  · rw [e 87 (by decide)]; exact p2
  · rw [e 87 (by decide)]; exact p3
  · rw [e 87 (by decide)]; exact p4
  · rw [e 88 (by decide)]; exact p5
  · rw [e 88 (by decide)]; exact p6
  · rw [e 89 (by decide)]; exact p7
  · have k3 := (wq.1.2.2.2.2.2 k hk).2.1
    rw [e9, upx_e, if_neg (by omega)]; exact p8 k hk c' hc'
def TsK (M : MM) (L : Nat) (B : Nat → Nat) (Q : QG) (t : TK) (ρ : Nat → Int32) : Prop := TsM M 1 L B Q t ∧ ∀ c, c < 6 → mI M 90 (24 + 6 * pK Q.1 + c) = ρ c
theorem TsK.set {M : MM} {ρ : Nat → Int32} (h : TsK M L B Q t ρ) {c : Nat} (v : Int32) : TsK (w90 M Q c v) L B Q t (upx ρ c v) := ⟨h.1.goalc v, fun c' hc' => by
  unfold w90
  rw [mI_uI, if_pos rfl, upx_e, upx_e]
  by_cases e : c' = c
  · rw [if_pos (by omega), if_pos e]
  · rw [if_neg (by omega), if_neg e]
    exact h.2 c' hc'⟩
theorem TsK.nx {M M' : MM} {ρ : Nat → Int32} {t' : TK} (h : TsK M L B Q t ρ) (s : Sm [86] [] M M') (h' : TsM M' 1 L B Q t') : TsK M' L B Q t' ρ := ⟨h', fun c hc => by
  rw [s.i 90 (by decide)]
  exact h.2 c hc⟩
theorem LM_gs32 : ∀ (m i : Nat) {M : MM} {ρ : Nat → Int32} {t : TK}, i + m = 3 → TsK M L B Q t ρ → pK Q.1 < 4 → ∀ f, m + 1 < f → (∃ e M', sgA L B Q.2.2 (pG Q.1) m t = .inl e ∧ LP4 f12_newGoal_b32_body f M 86 (nI (24 + 6 * pK Q.1)) (nI i) = some M' ∧ GrM M M' ∧ BdM M' e) ∨ (∃ l t' M', sgA L B Q.2.2 (pG Q.1) m t = .inr (l, t') ∧ LP4 f12_newGoal_b32_body f M 86 (nI (24 + 6 * pK Q.1)) (nI i) = f12_newGoal_b73 M' 86 (nI (24 + 6 * pK Q.1)) (nI (i + l.length)) ∧ GrM M M' ∧ TsK M' L B Q t' (wrL ρ (3 + i) l))
  | m, i, M, ρ, t, hi, h, hR, 0, hf => absurd hf (Nat.not_lt_zero _)
  | 0, i, M, ρ, t, hi, h, hR, f + 1, _ => by
    have w := h.1.1
    refine .inr ⟨[], t, M, rfl, ?_, GrM.rfl M, h⟩
    rw [LP4_s]
    generalize LP4 f12_newGoal_b32_body f = K
    unfold f12_newGoal_b32_body
    rw [aO_86 w, g_isGood h.1, cI_some, if_neg (show ¬ (1 : Int32) = 0 by decide), aO_86 w, SM_isName h.1, cI_some]
    cases isN t with
    | false => rw [if_pos (show bI false = 0 from rfl)]; rfl
    | true =>
      rw [if_neg (show ¬ bI true = 0 by decide), show (3 : Int32) = nI 3 from rfl, if_pos (nI_le (by omega) (by omega))]
      rfl
  | m + 1, i, M, ρ, t, hi, h, hR, f + 1, hf => by
    have w := h.1.1
    have sg : sgA L B Q.2.2 (pG Q.1) (m + 1) t = if isN t = true then (match takeN L B Q.2.2 (pG Q.1) t with | .inl e => .inl e | .inr (k, t1) => match sgA L B Q.2.2 (pG Q.1) m t1 with | .inl e => .inl e | .inr (l, t2) => .inr (k :: l, t2)) else .inr ([], t) := rfl
    rw [sg]
    by_cases c : isN t = true
    · rw [if_pos c]
      have head : ∀ v M1, f12_oneOf M 86 (nI 1) (nI 1) = some (v, M1) → Wl M1 → LP4 f12_newGoal_b32_body (f + 1) M 86 (nI (24 + 6 * pK Q.1)) (nI i) = LP4 f12_newGoal_b32_body f (w90 M1 Q (3 + i) v) 86 (nI (24 + 6 * pK Q.1)) (nI (i + 1)) := fun v M1 hv w1 => by
        rw [LP4_s]
        generalize LP4 f12_newGoal_b32_body f = K
        unfold f12_newGoal_b32_body
        rw [aO_86 w, g_isGood h.1, cI_some, if_neg (show ¬ (1 : Int32) = 0 by decide), aO_86 w, SM_isName h.1, cI_some, c, if_neg (show ¬ bI true = 0 by decide), show (3 : Int32) = nI 3 from rfl, if_neg (nI_ge (by omega) (by omega)), aO_86 w, aO_86 w, show (1 : Int32) = nI 1 from rfl, hv, cI_some, r_86_4 w, nI_add, nI_add, aA_90 w1 (by omega), bM_e, sI_e, nI_clamp (by omega), nI_add, show 24 + 6 * pK Q.1 + 3 + i = 24 + 6 * pK Q.1 + (3 + i) by omega]
        rfl
      rcases SM_oneOf h.1 (s := 1) (by omega) with ⟨e, M1, x1, x2, x3, x4, x5⟩ | ⟨k, t1, M1, x1, x2, x3, x4, x5, x6⟩
      · have x1' : takeN L B Q.2.2 (pG Q.1) t = .inl e := x1
        have b2 : BdM (w90 M1 Q (3 + i) (-1)) e := x5.u (by decide) _
        obtain ⟨f', hf'⟩ : ∃ f', f = f' + 1 := ⟨f - 1, by omega⟩
        obtain ⟨M', k1, k2, k3⟩ := bk_32 b2 (to := 24 + 6 * pK Q.1) (by omega) (by omega) (nI (i + 1)) f'
        refine .inl ⟨e, M', by rw [x1'], ?_, (x3.trans (w90_g _)).trans k2, k3⟩
        rw [head _ _ x2 x5.1, hf', k1]
      · have x1' : takeN L B Q.2.2 (pG Q.1) t = .inr (k, t1) := x1
        have h2 := (h.nx x4 x5).set (c := 3 + i) (nI k)
        have hd := head _ _ x2 x5.1
        rcases LM_gs32 m (i + 1) (by omega) h2 hR f (by omega) with ⟨e, M2, y1, y2, y3, y4⟩ | ⟨l, t2, M2, y1, y2, y3, y4⟩
        · exact .inl ⟨e, M2, by rw [x1']; simp only [y1], by rw [hd]; exact y2, (x3.trans (w90_g _)).trans y3, y4⟩
        · refine .inr ⟨k :: l, t2, M2, by rw [x1']; simp only [y1], ?_, (x3.trans (w90_g _)).trans y3, y4⟩
          rw [hd, y2]
          show _ = f12_newGoal_b73 M2 86 (nI (24 + 6 * pK Q.1)) (nI (i + (l.length + 1)))
          rw [show i + (l.length + 1) = i + 1 + l.length by omega]
    · rw [if_neg c]
      rw [Bool.not_eq_true] at c
      refine .inr ⟨[], t, M, rfl, ?_, GrM.rfl M, h⟩
      rw [LP4_s]
      generalize LP4 f12_newGoal_b32_body f = K
      unfold f12_newGoal_b32_body
      rw [aO_86 w, g_isGood h.1, cI_some, if_neg (show ¬ (1 : Int32) = 0 by decide), aO_86 w, SM_isName h.1, cI_some, c, if_pos (show bI false = 0 from rfl)]
      rfl
theorem g_73 {M : MM} {ρ : Nat → Int32} (h : TsK M L B Q t ρ) (hR : pK Q.1 < 4) (n : Nat) : ∃ M', f12_newGoal_b73 M 86 (nI (24 + 6 * pK Q.1)) (nI n) = f12_newGoal_b120 M' 86 ∧ GrM M M' ∧ TsK M' L B Q (moreA L B t).2 (upx (upx ρ 1 (nI n)) 2 (nI (moreA L B t).1)) := by
  have w := h.1.1
  have h1 := h.set (c := 1) (nI n)
  have w1 := h1.1.1
  have h2 := h1.set (c := 2) 0
  have w2 := h2.1.1
  obtain ⟨M2, hM2⟩ : ∃ M2, M2 = w90 (w90 M Q 1 (nI n)) Q 2 0 := ⟨_, rfl⟩
  have g2 : GrM M M2 := by rw [hM2]; exact (w90_g _).trans (w90_g _)
  rw [← hM2] at h2 w2
  unfold f12_newGoal_b73 moreA
  rw [aO_86 w, r_86_4 w, nI_1, aA_90 w (by omega), bM_e, sI_e, nI_clamp (by omega), show uI M 90 (upx (mI M 90) (24 + 6 * pK Q.1 + 1) (nI n)) = w90 M Q 1 (nI n) from rfl, aO_86 w1, r_86_4 w1, show (2 : Int32) = nI 2 from rfl, nI_add, aA_90 w1 (by omega), bM_e, sI_e, nI_clamp (by omega), show uI (w90 M Q 1 (nI n)) 90 (upx (mI (w90 M Q 1 (nI n)) 90) (24 + 6 * pK Q.1 + 2) 0) = w90 (w90 M Q 1 (nI n)) Q 2 0 from rfl, ← hM2, aO_86 w2, g_isGood h2.1, cI_some, if_neg (show ¬ (1 : Int32) = 0 by decide), aO_86 w2, show (441925 : Int32) = nI (c5 kwM) from rfl, SM_isWordK h2.1 (by decide), cI_some]
  by_cases c : isW t kwM = true
  · have h3 := h2.set (c := 2) (nI 1)
    have w3 := h3.1.1
    obtain ⟨M4, a1, a2, a3, a4⟩ := h3.1.take
    rw [if_pos c, c, if_neg (show ¬ bI true = 0 by decide), aO_86 w2, r_86_4 w2, aA_90 w2 (by omega), bM_e, sI_e, show uI M2 90 (upx (mI M2 90) (24 + 6 * pK Q.1 + 2) 1) = w90 M2 Q 2 (nI 1) from rfl, aO_86 w3, a1, cV_some]
    refine ⟨M4, rfl, (g2.trans (w90_g _)).trans a2, ?_⟩
    have := h3.nx a4 a3
    rw [upx_upx] at this
    exact this
  · rw [if_neg c]
    rw [Bool.not_eq_true] at c
    rw [c, if_pos (show bI false = 0 from rfl)]
    exact ⟨M2, rfl, g2, h2⟩
theorem TsK.add {M : MM} {ρ : Nat → Int32} {p v : Nat} {l : List Nat} (h : TsK M L B Q t (rhoK ρ p l v)) (hl : l.length ≤ 3) (wq' : WQ (addK Q p l v)) : ∃ M', f12_newGoal_b120 M 86 = some M' ∧ GrM M M' ∧ TsM M' 1 L B (addK Q p l v) t := by
  obtain ⟨⟨w, tp, tk, g, h15, ⟨b2, p1, p2, p3, p4, p5, p6, p7, p8⟩, wq⟩, hρ⟩ := h
  have e : ∀ x, x ≠ 87 → mI (uI M 87 (upx (mI M 87) 7 (nI (pK Q.1 + 1)))) x = mI M x := fun x hx => by rw [mI_uI, if_neg hx]
  have e7 : mI (uI M 87 (upx (mI M 87) 7 (nI (pK Q.1 + 1)))) 87 = upx (mI M 87) 7 (nI (pK Q.1 + 1)) := by rw [mI_uI, if_pos rfl]
  refine ⟨_, ?_, gr_87 (i := 7) (by omega) (nI (pK Q.1 + 1)), w, ?_, ?_, g, ?_, ⟨b2, ?_, ?_, ?_, ?_, ?_, ?_, ?_, fun k hk c' hc' => ?_⟩, wq'⟩
  · unfold f12_newGoal_b120
    have p4' : mI M 87 7 = nI (pK Q.1) := p4
    rw [aO_86 w, r_86_1 w, show (7 : Int32) = nI 7 from rfl, aA_87 w (by omega), aA_87 w (by omega), bM_e, sI_e, nI_clamp (by omega), p4', nI_1]
  · unfold TpM
    rw [e 86 (by decide), e 91 (by decide)]
    exact tp
  · unfold TkM
    rw [e 86 (by decide)]
    exact tk
  · rw [e 86 (by decide)]; exact h15
  · rw [e7, upx_e, if_neg (by omega)]; exact p1
  · rw [e7, upx_e, if_neg (by omega)]; exact p2
  · rw [e7, upx_e, if_neg (by omega)]; exact p3
  · rw [e7, upx_e, if_pos (by omega)]; rfl
  · rw [e 88 (by decide)]; exact p5
  · rw [e 88 (by decide)]; exact p6
  · rw [e 89 (by decide)]; exact p7
  · have hk' : k < pK Q.1 + 1 := hk
    rw [e 90 (by decide)]
    by_cases q : k = pK Q.1
    · have e1 : (addK Q p l v).1.2.2 k = gwF p l v := if_pos q
      unfold kn at hc'
      rw [e1] at hc' ⊢
      have hc2 : c' < 3 + l.length := hc'
      rw [q, ← rhoK_ok (ρ := ρ) hl hc2, show 24 * 1 + (6 * pK Q.1 + c') = 24 + 6 * pK Q.1 + c' by omega]
      exact hρ c' (by omega)
    · have e1 : (addK Q p l v).1.2.2 k = Q.1.2.2 k := if_neg q
      unfold kn at hc'
      rw [e1] at hc' ⊢
      exact p8 k (by omega) c' hc'
theorem SM_newGoal {M : MM} (h : TsM M 1 L B Q t) (hR : pK Q.1 < 4) : LnM (cV (f12_newGoal M 86) fun X => f12_readLine_b109 X 86) M L B (goalA L B Q t) := by
  have w := h.1
  obtain ⟨M1, a1, a2, a3, a4⟩ := h.take
  have w1 := a3.1
  have m7 : mI M 87 7 = nI (pK Q.1) := h.2.2.2.2.2.1.2.2.2.2.1
  have wq := h.2.2.2.2.2.2
  have h1 : TsK M1 L B Q (nxt L B t) (fun c => mI M1 90 (24 + 6 * pK Q.1 + c)) := ⟨a3, fun _ _ => rfl⟩
  have goalN : goalA L B Q t = (match takeN L B Q.2.1 (pS Q.1) (nxt L B t) with | .inl e => .inl e | .inr (a, t2) => match sgA L B Q.2.2 (pG Q.1) 3 t2 with | .inl e => .inl e | .inr (l, t3) => match semiA L B (moreA L B t3).2 with | .inl e => .inl e | .inr t4 => .inr (addK Q a l (moreA L B t3).1, t4)) := by
    unfold goalA
    rw [if_neg (by omega)]
    rfl
  rw [goalN]
  have hd : ∀ v M2, f12_oneOf M1 86 (nI 1) (nI 0) = some (v, M2) → Wl M2 → f12_newGoal M 86 = LP4 f12_newGoal_b32_body FU (w90 M2 Q 0 v) 86 (nI (24 + 6 * pK Q.1)) (nI 0) := fun v M2 hv w2 => by
    have hv' : f12_oneOf M1 86 (1 : Int32) (0 : Int32) = some (v, M2) := hv
    unfold f12_newGoal
    rw [aO_86 w, r_86_1 w, show (7 : Int32) = nI 7 from rfl, aA_87 w (by omega), nI_clamp (by omega), m7, show (24 : Int32) = nI 24 from rfl, show (6 : Int32) = nI 6 from rfl, nI_mulN, nI_add, bW_e, aO_86 w, a1, cV_some, aO_86 w1, aO_86 w1, hv', cI_some, r_86_4 w1, aA_90 w2 (by omega), bM_e, sI_e, nI_clamp (by omega)]
    rfl
  rcases SM_oneOf a3 (s := 0) (by omega) with ⟨e, M2, x1, x2, x3, x4, x5⟩ | ⟨k1, t2, M2, x1, x2, x3, x4, x5, x6⟩
  · have x1' : takeN L B Q.2.1 (pS Q.1) (nxt L B t) = .inl e := x1
    have b2 : BdM (w90 M2 Q 0 (-1)) e := x5.u (by decide) _
    obtain ⟨f, hf⟩ : ∃ f, FU = f + 1 := ⟨FU - 1, by have : (8 : Nat) < FU := FU_big (by omega); omega⟩
    obtain ⟨M', k1, k2, k3⟩ := bk_32 b2 (to := 24 + 6 * pK Q.1) (by omega) (by omega) (nI 0) f
    rw [hd _ _ x2 x5.1, hf, k1, cV_some, b_109 k3]
    exact .inl ⟨e, M', by simp only [x1'], rfl, ((a2.trans x3).trans (w90_g _)).trans k2, k3⟩
  · have x1' : takeN L B Q.2.1 (pS Q.1) (nxt L B t) = .inr (k1, t2) := x1
    have h2 := (h1.nx x4 x5).set (c := 0) (nI k1)
    have g2 : GrM M (w90 M2 Q 0 (nI k1)) := (a2.trans x3).trans (w90_g _)
    rw [hd _ _ x2 x5.1]
    rcases LM_gs32 3 0 (by omega) h2 hR FU (FU_big (by omega)) with ⟨e, M7, v1, v2, v3, v4⟩ | ⟨l, t6, M7, v1, v2, v3, v4⟩
    · rw [v2, cV_some, b_109 v4]
      exact .inl ⟨e, M7, by simp only [x1', v1], rfl, g2.trans v3, v4⟩
    · rw [v2, Nat.zero_add]
      obtain ⟨ll, lx, -⟩ := sgA_g x5.2.2.2.1 v1
      obtain ⟨M8, q1, q2, q3⟩ := g_73 v4 hR l.length
      have mo := moreA_g (B := B) v4.1.2.2.2.1
      have wq' : WQ (addK Q k1 l (moreA L B t6).1) := addK_w wq hR x6 ll lx mo.2.2
      obtain ⟨M9, o1, o2, o3⟩ := TsK.add (Q := Q) (ρ := fun c => mI M1 90 (24 + 6 * pK Q.1 + c)) (p := k1) (l := l) (v := (moreA L B t6).1) q3 ll wq'
      rw [q1, o1, cV_some]
      rcases g_109 o3 with ⟨e, M10, s1, s2, s3, s4⟩ | ⟨t8, M10, s1, s2, s3, s4⟩
      · exact .inl ⟨e, M10, by simp only [x1', v1, s1], s2, (((g2.trans v3).trans q2).trans o2).trans s3, s4⟩
      · exact .inr ⟨_, t8, M10, by simp only [x1', v1, s1], s2, (((g2.trans v3).trans q2).trans o2).trans s3, s4⟩
end GOALM
