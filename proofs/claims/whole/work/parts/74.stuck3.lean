/-! WHERE IT GETS STUCK: the reference -/
def stQ (M M' : MM) (P : PG) (o : Nat) (nw : NW) : Prop := Sm [86, 95, 96, 97, 98] [100, 101] M M' ∧ (∀ j, j ≠ 30 → mI M' 86 j = mI M 86 j) ∧ CoM M' P o nw ∧ ToldOK M' P o
theorem stQ.rfl {M : MM} {P : PG} {o : Nat} {nw : NW} (h : CoM M P o nw) (ht : ToldOK M P o) : stQ M M P o nw := ⟨Sm.rfl _ _ _, fun _ _ => Eq.refl _, h, ht⟩
theorem stQ.trans {M M1 M2 : MM} {P : PG} {o : Nat} {nw : NW} (a : stQ M M1 P o nw) (b : stQ M1 M2 P o nw) : stQ M M2 P o nw := ⟨a.1.trans b.1, fun j hj => (b.2.1 j hj).trans (a.2.1 j hj), b.2.2.1, b.2.2.2⟩
section STM
variable {P : PG} {o p0 H : Nat} {s : Nat → Nat} {V : Nat → Nat → Nat}
theorem LM_stuck44 (hV : ∀ p' g', p' < pS P → g' < pG P → costN P o (hTG p' g') (some (p0, H, s)) (V p' g')) {p g : Nat} (hp : p < pS P) (hg : g < pG P) {best : Nat} (hb : best ≤ FARN) : ∀ (d j : Nat), j + d = pR P → ∀ f, d < f → ∀ M, CoM M P o (some (p0, H, s)) → ToldOK M P o → ∀ b : Bool, b = (List.range j).any (fun r => rfor P o r p g) →
    ∃ M', (∀ K29, LP7 (f12_stuck_b44_body K29) f M 86 (mjv best) (nI p) (nI g) (bI b) (nI j) = K29 M' 86 (mjv (min best (if hasFor P o p g = true then FARN else V p g))) (nI p) (nI (g + 1))) ∧ stQ M M' P o (some (p0, H, s))
  | 0, j, hj, f + 1, _, M, h, ht, b, hbb => by
    have w := h.w
    have h14 := h.p.2.2.1
    have e : j = pR P := by omega
    subst e
    have hf : hasFor P o p g = b := hbb.symm
    cases b
    · obtain ⟨M', a1, a2, a3, a4, a5⟩ := SM_comesTo h ht hp (okT_h h.p hp hg) (.inl ⟨g, by have := h.p.2.1; omega, rfl, rfl⟩) (hV p g hp hg)
      refine ⟨M', fun K29 => ?_, a2, a3, a4, a5⟩
      show f12_stuck_b44_body _ _ _ _ _ _ _ _ _ = _
      generalize LP7 (f12_stuck_b44_body K29) f = K
      unfold f12_stuck_b44_body f12_stuck_b95
      rw [aO_86 w, r_86_1 w, lit_2, aA_87 w (by omega), nI_clamp (by omega), h.pg.r, if_pos (nI_le (Nat.le_refl _) (by omega)), bI_f, if_pos rfl, aO_86 w, a1, cJ_some, SM_lesser hb (hV p g hp hg).1, cJ_some, nI_1, hf, if_neg (by decide)]
    · refine ⟨M, fun K29 => ?_, stQ.rfl h ht⟩
      show f12_stuck_b44_body _ _ _ _ _ _ _ _ _ = _
      generalize LP7 (f12_stuck_b44_body K29) f = K
      unfold f12_stuck_b44_body f12_stuck_b95
      rw [aO_86 w, r_86_1 w, lit_2, aA_87 w (by omega), nI_clamp (by omega), h.pg.r, if_pos (nI_le (Nat.le_refl _) (by omega)), bI_t, if_neg (by decide), nI_1, hf, if_pos rfl, Nat.min_eq_left hb]
  | d + 1, j, hj, f + 1, hf, M, h, ht, b, hbb => by
    have w := h.w
    have h14 := h.p.2.2.1
    have p5 := h.p.1
    have g6 := h.p.2.1
    obtain ⟨M', a1, a2⟩ := LM_stuck44 hV hp hg hb d (j + 1) (by omega) f (by omega) M h ht (b || rfor P o j p g) (by rw [any_succ, hbb])
    refine ⟨M', fun K29 => ?_, a2⟩
    rw [← a1 K29]
    show f12_stuck_b44_body _ _ _ _ _ _ _ _ _ = _
    generalize LP7 (f12_stuck_b44_body K29) f = K
    unfold f12_stuck_b44_body
    rw [aO_86 w, r_86_1 w, lit_2, aA_87 w (by omega), nI_clamp (by omega), h.pg.r, if_neg (nI_ge (by omega) (by omega)), aO_86 w, SM_isHeadOf w h.pg h.p (o_lt h.2.2.1) (by omega) (by omega) (by omega), cI_some, bW_e, bI_or, nI_1]
theorem LM_stuck29 (hV : ∀ p' g', p' < pS P → g' < pG P → costN P o (hTG p' g') (some (p0, H, s)) (V p' g')) {p : Nat} (hp : p < pS P) {best : Nat} (hb : best ≤ FARN) : ∀ (d j : Nat), j + d = pG P → ∀ f, d < f → ∀ M, CoM M P o (some (p0, H, s)) → ToldOK M P o →
    ∃ M', (∀ K11, LP5 (f12_stuck_b29_body K11) f M 86 (mjv (min best (mnf (fun g => if hasFor P o p g = true then FARN else V p g) j))) (nI p) (nI j) = K11 M' 86 (mjv (min best (mnf (fun g => if hasFor P o p g = true then FARN else V p g) (pG P)))) (nI (p + 1))) ∧ stQ M M' P o (some (p0, H, s))
  | 0, j, hj, f + 1, _, M, h, ht => by
    have w := h.w
    have g6 := h.p.2.1
    have e : j = pG P := by omega
    subst e
    refine ⟨M, fun K11 => ?_, stQ.rfl h ht⟩
    show f12_stuck_b29_body _ _ _ _ _ _ _ = _
    generalize LP5 (f12_stuck_b29_body K11) f = K
    unfold f12_stuck_b29_body
    rw [aO_86 w, SM_signs w h.pg, cI_some, if_pos (nI_le (Nat.le_refl _) (by omega)), nI_1]
  | d + 1, j, hj, f + 1, hf, M, h, ht => by
    have w := h.w
    have g6 := h.p.2.1
    obtain ⟨M1, a1, a2⟩ := LM_stuck44 hV hp (show j < pG P by omega) (best := min best (mnf (fun g => if hasFor P o p g = true then FARN else V p g) j)) (Nat.le_trans (Nat.min_le_left _ _) hb) (pR P) 0 (by omega) FU (FU_big (by have := h.p.2.2.1; omega)) M h ht false rfl
    obtain ⟨M', b1, b2⟩ := LM_stuck29 hV hp hb d (j + 1) (by omega) f (by omega) M1 a2.2.2.1 a2.2.2.2
    refine ⟨M', fun K11 => ?_, a2.trans b2⟩
    rw [← b1 K11]
    have q := a1 (LP5 (f12_stuck_b29_body K11) f)
    show f12_stuck_b29_body _ _ _ _ _ _ _ = _
    generalize LP5 (f12_stuck_b29_body K11) f = K at q ⊢
    unfold f12_stuck_b29_body f12_stuck_b44
    rw [aO_86 w, SM_signs w h.pg, cI_some, if_neg (nI_ge (by omega) (by omega))]
    refine q.trans ?_
    rw [Nat.min_assoc]
    rfl
theorem LM_stuck11 (hV : ∀ p' g', p' < pS P → g' < pG P → costN P o (hTG p' g') (some (p0, H, s)) (V p' g')) : ∀ (d j : Nat), j + d = pS P → ∀ f, d < f → ∀ M, CoM M P o (some (p0, H, s)) → ToldOK M P o →
    ∃ M', LP4 f12_stuck_b11_body f M 86 (mjv (mnf (fun p => mnf (fun g => if hasFor P o p g = true then FARN else V p g) (pG P)) j)) (nI j) = some (mjv (stN P o V), M') ∧ stQ M M' P o (some (p0, H, s))
  | 0, j, hj, f + 1, _, M, h, ht => by
    have w := h.w
    have p5 := h.p.1
    have e : j = pS P := by omega
    subst e
    refine ⟨M, ?_, stQ.rfl h ht⟩
    show f12_stuck_b11_body _ _ _ _ _ = _
    generalize LP4 f12_stuck_b11_body f = K
    unfold f12_stuck_b11_body
    rw [aO_86 w, SM_states w h.pg, cI_some, if_pos (nI_le (Nat.le_refl _) (by omega))]
    rfl
  | d + 1, j, hj, f + 1, hf, M, h, ht => by
    have w := h.w
    have p5 := h.p.1
    obtain ⟨M1, a1, a2⟩ := LM_stuck29 hV (show j < pS P by omega) (best := mnf (fun p => mnf (fun g => if hasFor P o p g = true then FARN else V p g) (pG P)) j) (mnf_far _ _) (pG P) 0 (by omega) FU (FU_big (by have := h.p.2.1; omega)) M h ht
    obtain ⟨M', b1, b2⟩ := LM_stuck11 hV d (j + 1) (by omega) f (by omega) M1 a2.2.2.1 a2.2.2.2
    refine ⟨M', ?_, a2.trans b2⟩
    rw [← b1]
    have q := a1 (LP4 f12_stuck_b11_body f)
    show f12_stuck_b11_body _ _ _ _ _ = _
    generalize LP4 f12_stuck_b11_body f = K at q ⊢
    unfold f12_stuck_b11_body f12_stuck_b29
    rw [aO_86 w, SM_states w h.pg, cI_some, if_neg (nI_ge (by omega) (by omega)), aO_86 w, h.2.2.2.2.1.1, if_neg (by decide)]
    refine Eq.trans ?_ q
    rw [show min (mnf (fun p => mnf (fun g => if hasFor P o p g = true then FARN else V p g) (pG P)) j) (mnf (fun g => if hasFor P o j g = true then FARN else V j g) 0) = mnf (fun p => mnf (fun g => if hasFor P o p g = true then FARN else V p g) (pG P)) j from Nat.min_eq_left (mnf_far _ _)]
    rfl
end STM
section STN
variable {M : MM} {P : PG} {o : Nat} {nw : NW}
theorem stV_ex (hp : WP P) (hw : WN P nw) (o : Nat) : ∃ V : Nat → Nat → Nat, ∀ p' g', p' < pS P → g' < pG P → costN P o (hTG p' g') nw (V p' g') := by
  have : ∀ p' g', ∃ v, p' < pS P → g' < pG P → costN P o (hTG p' g') nw v := fun p' g' => by
    by_cases c : p' < pS P ∧ g' < pG P
    · obtain ⟨v, hv⟩ := costN_ex hp hw o (okT_h hp c.1 c.2)
      exact ⟨v, fun _ _ => hv⟩
    · exact ⟨0, fun a b => absurd ⟨a, b⟩ c⟩
  exact ⟨fun p' g' => (this p' g').choose, fun p' g' => (this p' g').choose_spec⟩
theorem SM_stuck (h : CoM M P o nw) (ht : ToldOK M P o) : ∃ M' r, f12_stuck M 86 = some (r, M') ∧ Sm [86, 95, 96, 97, 98] [100, 101] M M' ∧ (∀ j, j ≠ 0 → j ≠ 30 → mI M' 86 j = mI M 86 j) ∧ CoM M' P o nw ∧ ToldOK M' P o ∧ stA P o nw r := by
  have w := h.w
  have w0 : Wl (sI M 86 0 0) := w
  have h0 := h.th 0
  have t0 := ht.th 0
  have p5 := h.p.1
  rcases nw with _ | ⟨p0, H, s⟩
  · refine ⟨sI M 86 0 0, -1, ?_, th_sm.more (by decide) (by decide), fun j q _ => th_f q, h0, t0, fun _ => rfl, fun _ _ _ q => by cases q⟩
    unfold f12_stuck
    rw [aO_86 w, bM_e]
    have hf : ∃ n, FU = n + 1 := ⟨FU - 1, by have : (8 : Nat) < FU := FU_big (by omega); omega⟩
    obtain ⟨n, hn⟩ := hf
    unfold f12_stuck_b11
    rw [hn]
    show f12_stuck_b11_body _ _ _ _ _ = _
    generalize LP4 f12_stuck_b11_body n = K
    unfold f12_stuck_b11_body
    rw [aO_86 w0, SM_states w0 h0.pg, cI_some, aO_86 w0, show mI (sI M 86 0 0) 86 19 = 0 from (th_f (by decide)).trans h.2.2.2.2.1, if_pos rfl]
    split <;> rfl
  · obtain ⟨V, hV⟩ := stV_ex h.p h.2.2.2.2.2.1 o
    obtain ⟨M', a1, a2, a3, a4, a5⟩ := LM_stuck11 hV (pS P) 0 (by omega) FU (FU_big (by omega)) (sI M 86 0 0) h0 t0
    refine ⟨M', mjv (stN P o V), ?_, (th_sm.more (by decide) (by decide)).trans a2, fun j q1 q2 => (a3 j q2).trans (th_f q1), a4, a5, (fun q => by cases q), fun p' H' s' q V' hV' => ?_⟩
    · unfold f12_stuck
      rw [aO_86 w, bM_e]
      exact a1
    · cases q
      congr 1
      refine mnf_congr _ (fun p hp => mnf_congr _ (fun g hg => ?_))
      rw [costN_u h.p (hV p g hp hg) (hV' p g hp hg)]
theorem stA_eq (hp : WP P) (hw : WN P nw) {r r' : Int64} (a : stA P o nw r) (b : stA P o nw r') : r = r' := by
  rcases nw with _ | ⟨p, H, s⟩
  · rw [a.1 rfl, b.1 rfl]
  · obtain ⟨V, hV⟩ := stV_ex hp hw o
    rw [a.2 p H s rfl V hV, b.2 p H s rfl V hV]
end STN
