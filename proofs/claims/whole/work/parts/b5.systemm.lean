/-! system at the reference -/
section SYSTEMM
variable {P : PG} {o : Nat} {nw : NW} {L : Nat} {B : Nat → Nat}
theorem LM_sy62 {M0 : MM} (w0 : Wl M0) : ∀ (d i : Nat), i + d = 4 → ∀ f, d < f → ∀ M, Sm [87] [] M0 M → (∀ j, j < i → mI M 87 j = mI M0 87 (4 + j)) → (∀ j, 4 ≤ j → mI M 87 j = mI M0 87 j) → ∃ M', LP3 f12_system_b62_body f M 86 (nI i) = f12_system_b89 M' 86 0 ∧ Sm [87] [] M0 M' ∧ ∀ j, j < 4 → mI M' 87 j = mI M0 87 (4 + j)
  | 0, i, hi, f + 1, _, M, s, h, hu => by
    have w := w0.sm s
    have e : i = 4 := by omega
    rw [e] at h ⊢
    refine ⟨M, ?_, s, h⟩
    rw [LP3_s]
    generalize LP3 f12_system_b62_body f = K
    unfold f12_system_b62_body
    rw [show (4 : Int32) = nI 4 from rfl, if_pos (nI_le (Nat.le_refl _) (by omega))]
  | d + 1, i, hi, f + 1, hf, M, s, h, hu => by
    have w := w0.sm s
    obtain ⟨M1, hM1⟩ : ∃ M1, M1 = uI M 87 (upx (mI M 87) i (mI M 87 (4 + i))) := ⟨_, rfl⟩
    obtain ⟨M', k1, k2⟩ := LM_sy62 w0 d (i + 1) (by omega) f (by omega) M1 (by rw [hM1]; exact s.uI _ (by decide)) (fun j hj => by
      rw [hM1, mI_uI, if_pos rfl, upx_e]
      by_cases e : j = i
      · rw [if_pos e, e, hu _ (by omega)]
      · rw [if_neg e]
        exact h j (by omega)) (fun j hj => by
      rw [hM1, mI_uI, if_pos rfl, upx_e, if_neg (by omega)]
      exact hu j hj)
    refine ⟨M', ?_, k2⟩
    rw [← k1, LP3_s]
    generalize LP3 f12_system_b62_body f = K
    unfold f12_system_b62_body
    rw [show (4 : Int32) = nI 4 from rfl, if_neg (nI_ge (by omega) (by omega)), aO_86 w, aO_86 w, r_86_1 w, nI_add, aA_87 w (by omega), aA_87 w (by omega), bM_e, sI_e, nI_clamp (by omega), nI_clamp (by omega), ← hM1, nI_1]
theorem LM_sy89 {M0 : MM} (w0 : Wl M0) : ∀ (d i : Nat), i + d = 12 → ∀ f, d < f → ∀ M, Sm [88] [] M0 M → (∀ j, j < i → mI M 88 j = mI M0 88 (12 + j)) → (∀ j, 12 ≤ j → mI M 88 j = mI M0 88 j) → ∃ M', LP3 f12_system_b89_body f M 86 (nI i) = f12_system_b118 M' 86 0 ∧ Sm [88] [] M0 M' ∧ ∀ j, j < 12 → mI M' 88 j = mI M0 88 (12 + j)
  | 0, i, hi, f + 1, _, M, s, h, hu => by
    have w := w0.sm s
    have e : i = 12 := by omega
    rw [e] at h ⊢
    refine ⟨M, ?_, s, h⟩
    rw [LP3_s]
    generalize LP3 f12_system_b89_body f = K
    unfold f12_system_b89_body
    rw [show (12 : Int32) = nI 12 from rfl, if_pos (nI_le (Nat.le_refl _) (by omega))]
  | d + 1, i, hi, f + 1, hf, M, s, h, hu => by
    have w := w0.sm s
    obtain ⟨M1, hM1⟩ : ∃ M1, M1 = uI M 88 (upx (mI M 88) i (mI M 88 (12 + i))) := ⟨_, rfl⟩
    obtain ⟨M', k1, k2⟩ := LM_sy89 w0 d (i + 1) (by omega) f (by omega) M1 (by rw [hM1]; exact s.uI _ (by decide)) (fun j hj => by
      rw [hM1, mI_uI, if_pos rfl, upx_e]
      by_cases e : j = i
      · rw [if_pos e, e, hu _ (by omega)]
      · rw [if_neg e]
        exact h j (by omega)) (fun j hj => by
      rw [hM1, mI_uI, if_pos rfl, upx_e, if_neg (by omega)]
      exact hu j hj)
    refine ⟨M', ?_, k2⟩
    rw [← k1, LP3_s]
    generalize LP3 f12_system_b89_body f = K
    unfold f12_system_b89_body
    rw [show (12 : Int32) = nI 12 from rfl, if_neg (nI_ge (by omega) (by omega)), aO_86 w, aO_86 w, r_86_2 w, nI_add, aA_88 w (by omega), aA_88 w (by omega), bM_e, sI_e, nI_clamp (by omega), nI_clamp (by omega), ← hM1, nI_1]
theorem LM_sy118 {M0 : MM} (w0 : Wl M0) : ∀ (d i : Nat), i + d = 98 → ∀ f, d < f → ∀ M, Sm [89] [] M0 M → (∀ j, j < i → mI M 89 j = mI M0 89 (98 + j)) → (∀ j, 98 ≤ j → mI M 89 j = mI M0 89 j) → ∃ M', LP3 f12_system_b118_body f M 86 (nI i) = f12_system_b147 M' 86 0 ∧ Sm [89] [] M0 M' ∧ ∀ j, j < 98 → mI M' 89 j = mI M0 89 (98 + j)
  | 0, i, hi, f + 1, _, M, s, h, hu => by
    have w := w0.sm s
    have e : i = 98 := by omega
    rw [e] at h ⊢
    refine ⟨M, ?_, s, h⟩
    rw [LP3_s]
    generalize LP3 f12_system_b118_body f = K
    unfold f12_system_b118_body
    rw [show (98 : Int32) = nI 98 from rfl, if_pos (nI_le (Nat.le_refl _) (by omega))]
  | d + 1, i, hi, f + 1, hf, M, s, h, hu => by
    have w := w0.sm s
    obtain ⟨M1, hM1⟩ : ∃ M1, M1 = uI M 89 (upx (mI M 89) i (mI M 89 (98 + i))) := ⟨_, rfl⟩
    obtain ⟨M', k1, k2⟩ := LM_sy118 w0 d (i + 1) (by omega) f (by omega) M1 (by rw [hM1]; exact s.uI _ (by decide)) (fun j hj => by
      rw [hM1, mI_uI, if_pos rfl, upx_e]
      by_cases e : j = i
      · rw [if_pos e, e, hu _ (by omega)]
      · rw [if_neg e]
        exact h j (by omega)) (fun j hj => by
      rw [hM1, mI_uI, if_pos rfl, upx_e, if_neg (by omega)]
      exact hu j hj)
    refine ⟨M', ?_, k2⟩
    rw [← k1, LP3_s]
    generalize LP3 f12_system_b118_body f = K
    unfold f12_system_b118_body
    rw [show (98 : Int32) = nI 98 from rfl, if_neg (nI_ge (by omega) (by omega)), aO_86 w, aO_86 w, r_86_3 w, nI_add, aA_89 w (by omega), aA_89 w (by omega), bM_e, sI_e, nI_clamp (by omega), nI_clamp (by omega), ← hM1, nI_1]
def enM (M : MM) : MM := sI (sI (sI (sI (sI M 86 5 0) 86 19 0) 86 23 0) 86 31 0) 86 49 0
theorem LM_sy147 {M0 : MM} (w0 : Wl M0) : ∀ (d i : Nat), i + d = 24 → ∀ f, d < f → ∀ M, Sm [90] [] M0 M → (∀ j, j < i → mI M 90 j = mI M0 90 (24 + j)) → (∀ j, 24 ≤ j → mI M 90 j = mI M0 90 j) → ∃ M', LP3 f12_system_b147_body f M 86 (nI i) = some (mI M0 87 2, enM M') ∧ Sm [90] [] M0 M' ∧ ∀ j, j < 24 → mI M' 90 j = mI M0 90 (24 + j)
  | 0, i, hi, f + 1, _, M, s, h, hu => by
    have w := w0.sm s
    have e : i = 24 := by omega
    rw [e] at h ⊢
    refine ⟨M, ?_, s, h⟩
    have w1 : Wl (sI M 86 5 0) := w
    have w2 : Wl (sI (sI M 86 5 0) 86 19 0) := w
    have w3 : Wl (sI (sI (sI M 86 5 0) 86 19 0) 86 23 0) := w
    have w4 : Wl (sI (sI (sI (sI M 86 5 0) 86 19 0) 86 23 0) 86 31 0) := w
    have w5 : Wl (enM M) := w
    have e87 : mI (enM M) 87 2 = mI M0 87 2 := by
      unfold enM
      rw [mI_sI, if_neg (by decide), mI_sI, if_neg (by decide), mI_sI, if_neg (by decide), mI_sI, if_neg (by decide), mI_sI, if_neg (by decide), s.i 87 (by decide)]
    rw [LP3_s]
    generalize LP3 f12_system_b147_body f = K
    unfold f12_system_b147_body
    rw [show (24 : Int32) = nI 24 from rfl, if_pos (nI_le (Nat.le_refl _) (by omega)), aO_86 w, bM_e, aO_86 w1, bM_e, aO_86 w2, bM_e, aO_86 w3, bM_e, aO_86 w4, bM_e, show sI (sI (sI (sI (sI M 86 5 0) 86 19 0) 86 23 0) 86 31 0) 86 49 0 = enM M from rfl, aO_86 w5, r_86_1 w5, show (2 : Int32) = nI 2 from rfl, aA_87 w5 (by omega), nI_clamp (by omega), e87]
  | d + 1, i, hi, f + 1, hf, M, s, h, hu => by
    have w := w0.sm s
    obtain ⟨M1, hM1⟩ : ∃ M1, M1 = uI M 90 (upx (mI M 90) i (mI M 90 (24 + i))) := ⟨_, rfl⟩
    obtain ⟨M', k1, k2⟩ := LM_sy147 w0 d (i + 1) (by omega) f (by omega) M1 (by rw [hM1]; exact s.uI _ (by decide)) (fun j hj => by
      rw [hM1, mI_uI, if_pos rfl, upx_e]
      by_cases e : j = i
      · rw [if_pos e, e, hu _ (by omega)]
      · rw [if_neg e]
        exact h j (by omega)) (fun j hj => by
      rw [hM1, mI_uI, if_pos rfl, upx_e, if_neg (by omega)]
      exact hu j hj)
    refine ⟨M', ?_, k2⟩
    rw [← k1, LP3_s]
    generalize LP3 f12_system_b147_body f = K
    unfold f12_system_b147_body
    rw [show (24 : Int32) = nI 24 from rfl, if_neg (nI_ge (by omega) (by omega)), aO_86 w, aO_86 w, r_86_4 w, nI_add, aA_90 w (by omega), aA_90 w (by omega), bM_e, sI_e, nI_clamp (by omega), nI_clamp (by omega), ← hM1, nI_1]
theorem LM_sy7 {M0 : MM} (w0 : Wl M0) : ∀ (d i : Nat), i + d = 8 → 4 ≤ i → ∀ f, d < f → ∀ M, Sm [87] [] M0 M → (∀ j, 4 ≤ j → j < i → mI M 87 j = 0) → (∀ j, j < 4 → mI M 87 j = mI M0 87 j) → ∃ M', LP3 f12_system_b7_body f M 86 (nI i) = (cV (f12_begins M' 86) fun M27 => f12_system_b30 M27 86) ∧ Sm [87] [] M0 M' ∧ (∀ j, 4 ≤ j → j < 8 → mI M' 87 j = 0) ∧ ∀ j, j < 4 → mI M' 87 j = mI M0 87 j
  | 0, i, hi, h4, f + 1, _, M, s, h, hu => by
    have w := w0.sm s
    have e : i = 8 := by omega
    rw [e] at h ⊢
    refine ⟨M, ?_, s, h, hu⟩
    rw [LP3_s]
    generalize LP3 f12_system_b7_body f = K
    unfold f12_system_b7_body
    rw [show (8 : Int32) = nI 8 from rfl, if_pos (nI_le (Nat.le_refl _) (by omega)), aO_86 w]
  | d + 1, i, hi, h4, f + 1, hf, M, s, h, hu => by
    have w := w0.sm s
    obtain ⟨M1, hM1⟩ : ∃ M1, M1 = uI M 87 (upx (mI M 87) i 0) := ⟨_, rfl⟩
    obtain ⟨M', k1, k2⟩ := LM_sy7 w0 d (i + 1) (by omega) (by omega) f (by omega) M1 (by rw [hM1]; exact s.uI _ (by decide)) (fun j h5 hj => by
      rw [hM1, mI_uI, if_pos rfl, upx_e]
      by_cases e : j = i
      · rw [if_pos e]
      · rw [if_neg e]
        exact h j h5 (by omega)) (fun j hj => by
      rw [hM1, mI_uI, if_pos rfl, upx_e, if_neg (by omega)]
      exact hu j hj)
    refine ⟨M', ?_, k2⟩
    rw [← k1, LP3_s]
    generalize LP3 f12_system_b7_body f = K
    unfold f12_system_b7_body
    rw [show (8 : Int32) = nI 8 from rfl, if_neg (nI_ge (by omega) (by omega)), aO_86 w, r_86_1 w, aA_87 w (by omega), bM_e, sI_e, nI_clamp (by omega), ← hM1, nI_1]
/-- the reference's side with its names -/
def ReM (M : MM) (P : PG) (o : Nat) (nw : NW) (Q : QG) : Prop := AlM M P o nw ∧ Q.1 = P ∧ PnB M 0 Q ∧ WQ Q
theorem PgM.bank {M : MM} {Q : QG} (h : PnB M 0 Q) (h5 : mI M 86 5 = nI o) : PgM M Q.1 o := by
  obtain ⟨b2, p1, p2, p3, p4, p5, p6, p7, p8⟩ := h
  refine ⟨h5, p1, p2, p3, p4, fun r hr c hc => ?_, fun k hk c hc => ?_⟩
  · have := p7 r hr c hc
    rw [show 98 * 0 + (7 * r + c) = 7 * r + c by omega] at this
    exact this
  · have := p8 k hk c hc
    rw [show 24 * 0 + (6 * k + c) = 6 * k + c by omega] at this
    exact this
/-- reading leaves what was -/
def RgM (M M' : MM) : Prop := Sm [86, 87, 88, 89, 90] [] M M' ∧ (∀ j, j ≠ 0 → j ≠ 7 → j ≠ 8 → j ≠ 13 → j ≠ 14 → gF j → mI M' 86 j = mI M 86 j) ∧ (∀ j, j < 4 → mI M' 87 j = mI M 87 j) ∧ (∀ j, j < 12 → mI M' 88 j = mI M 88 j) ∧ (∀ j, j < 98 → mI M' 89 j = mI M 89 j) ∧ ∀ j, j < 24 → mI M' 90 j = mI M 90 j
theorem RgM.trans {M M1 M2 : MM} (a : RgM M M1) (b : RgM M1 M2) : RgM M M2 := ⟨a.1.trans b.1, fun j h0 h1 h2 h3 h4 h => (b.2.1 j h0 h1 h2 h3 h4 h).trans (a.2.1 j h0 h1 h2 h3 h4 h), fun j h => (b.2.2.1 j h).trans (a.2.2.1 j h), fun j h => (b.2.2.2.1 j h).trans (a.2.2.2.1 j h), fun j h => (b.2.2.2.2.1 j h).trans (a.2.2.2.2.1 j h), fun j h => (b.2.2.2.2.2 j h).trans (a.2.2.2.2.2 j h)⟩
theorem GrM.rg {M M' : MM} (h : GrM M M') : RgM M M' := ⟨h.1, fun j _ _ _ _ _ hj => h.2.1 j hj, h.2.2⟩
theorem rg_86 {M M' : MM} (s : Sm [86] [] M M') (f : ∀ j, j ≠ 0 → j ≠ 7 → j ≠ 8 → j ≠ 13 → j ≠ 14 → gF j → mI M' 86 j = mI M 86 j) : RgM M M' := ⟨s.more (by decide) (by decide), f, fun j _ => by rw [s.i 87 (by decide)], fun j _ => by rw [s.i 88 (by decide)], fun j _ => by rw [s.i 89 (by decide)], fun j _ => by rw [s.i 90 (by decide)]⟩
theorem RgM.bank {M M' : MM} {Q : QG} (h : PnB M 0 Q) (wq : WQ Q) (g : RgM M M') : PnB M' 0 Q := by
  obtain ⟨b2, p1, p2, p3, p4, p5, p6, p7, p8⟩ := h
  obtain ⟨-, -, g7, g8, g9, g0⟩ := g
  have s5 := wq.1.1
  have g6 := wq.1.2.1
  have r14 := wq.1.2.2.1
  have k4 := wq.1.2.2.2.1
  refine ⟨b2, ?_, ?_, ?_, ?_, fun p hp => ?_, fun g hg => ?_, fun r hr c hc => ?_, fun k hk c hc => ?_⟩
  · rw [g7 _ (by omega)]; exact p1
  · rw [g7 _ (by omega)]; exact p2
  · rw [g7 _ (by omega)]; exact p3
  · rw [g7 _ (by omega)]; exact p4
  · rw [g8 _ (by omega)]; exact p5 p hp
  · rw [g8 _ (by omega)]; exact p6 g hg
  · rw [g9 _ (by omega)]; exact p7 r hr c hc
  · have k3 := (wq.1.2.2.2.2.2 k hk).2.1
    rw [g0 _ (by omega)]; exact p8 k hk c hc
theorem RgM.al {M M' : MM} {Q : QG} (h : ReM M P o nw Q) (g : RgM M M') : ReM M' P o nw Q := by
  obtain ⟨⟨⟨a1, a2, a3, a4, a5, a6, a7⟩, b, c⟩, e, pn, wq⟩ := h
  have pn' := g.bank pn wq
  have f : ∀ j, j = 5 ∨ j = 19 ∨ j = 20 ∨ j = 21 ∨ j = 31 ∨ j = 47 ∨ j = 48 ∨ j = 49 → mI M' 86 j = mI M 86 j := fun j hj => g.2.1 j (by omega) (by omega) (by omega) (by omega) (by omega) ⟨by unfold tF; omega, by omega, by omega⟩
  have pg : PgM M' P o := by
    rw [← e]
    exact PgM.bank pn' (by rw [f 5 (by omega)]; exact a4.1)
  refine ⟨⟨⟨a1.sm g.1, a2, a3, pg, a5.sm g.1 (fun j h1 h2 => f j (by omega)) (by decide), a6, ?_⟩, ?_, c.sm g.1 (f 47 (by omega)) (f 48 (by omega)) (f 49 (by omega)) (by decide)⟩, e, pn', wq⟩
  · unfold SzM
    rw [g.1.i 96 (by decide)]
    exact a7
  · unfold ToldOK at *
    rw [f 31 (by omega), g.1.j 99 (by decide)]
    exact b
theorem SM_system {M : MM} {Q : QG} (h : ReM M P o nw Q) (ta : TaM M L B) : (∃ e M', progA L B 801 QZ (tok L B 0) = .inl e ∧ f12_system M 86 = some (-1, M') ∧ RgM M M' ∧ mI M' 86 13 = nI e.1 ∧ mI M' 86 14 = nI e.2 ∧ mI M' 86 7 = 0) ∨ (∃ Q' M', progA L B 801 QZ (tok L B 0) = .inr Q' ∧ f12_system M 86 = some (nI (pR Q'.1), M') ∧ Sm [86, 87, 88, 89, 90] [] M M' ∧ ReM M' Q'.1 0 none Q' ∧ mI M' 86 13 = 0 ∧ mI M' 86 14 = -1 ∧ mI M' 86 7 = 0 ∧ mI M' 86 23 = 0) := by
  have w := h.1.1.1
  have sz := h.1.1.2.2.2.2.2.2
  obtain ⟨M0, hM0⟩ : ∃ M0, M0 = sI M 86 0 0 := ⟨_, rfl⟩
  have s0 : Sm [86] [] M M0 := by rw [hM0]; exact th_sm
  have w0 : Wl M0 := w.sm s0
  have r0 : RgM M M0 := rg_86 s0 (fun j h0 _ _ _ _ _ => by rw [hM0]; exact th_f h0)
  obtain ⟨M1, a1, a2, a3, a4⟩ := LM_sy7 w0 4 4 (by omega) (by omega) FU (FU_big (by omega)) M0 (Sm.rfl _ _ _) (fun j h1 h2 => by omega) (fun _ _ => rfl)
  have w1 := w0.sm a2
  have r1 : RgM M0 M1 := ⟨a2.more (by decide) (by decide), fun j _ _ _ _ _ _ => by rw [a2.i 86 (by decide)], a4, fun j _ => by rw [a2.i 88 (by decide)], fun j _ => by rw [a2.i 89 (by decide)], fun j _ => by rw [a2.i 90 (by decide)]⟩
  have ta1 : TaM M1 L B := by
    obtain ⟨t1, t2, t3⟩ := ta
    refine ⟨by rw [a2.i 86 (by decide), hM0, th_f (by decide)]; exact t1, t2, fun i hi => by rw [a2.i 91 (by decide), s0.i 91 (by decide)]; exact t3 i hi⟩
  have pn1 : PnB M1 1 QZ := ⟨by decide, a3 4 (by omega) (by omega), a3 5 (by omega) (by omega), a3 6 (by omega) (by omega), a3 7 (by omega) (by omega), fun p hp => absurd hp (Nat.not_lt_zero _), fun p hp => absurd hp (Nat.not_lt_zero _), fun p hp => absurd hp (Nat.not_lt_zero _), fun p hp => absurd hp (Nat.not_lt_zero _)⟩
  obtain ⟨M2, b1, b2, b3, b4, b5⟩ := SM_begins w1 ta1 pn1 QZ_w
  have r2 : RgM M1 M2 := rg_86 b2 (fun j _ h7 h8 _ _ hg => b3 j ⟨h7, h8, hg⟩)
  have hd : f12_system M 86 = LP2 f12_system_b30_body FU M2 86 := by
    unfold f12_system
    rw [aO_86 w, bM_e, ← hM0]
    refine a1.trans ?_
    rw [b1, cV_some]
    rfl
  have L7 : 802 < FU := FU_big (by omega)
  rw [hd]
  rcases LM_sy30 801 0 (by omega) FU L7 M2 QZ (tok L B 0) b5 (Nat.zero_le _) with ⟨e, M3, z1, z2, z3, z4⟩ | ⟨Q', t', M3, z1, z2, z3, z4⟩
  · obtain ⟨M4, c1, c2, c3, c4, c5⟩ := b_ends z4
    have r4 : RgM M3 M4 := rg_86 c2 (fun j _ _ _ h13 h14 _ => c3 j h13 h14)
    refine .inl ⟨e, M4, z1, ?_, (((r0.trans r1).trans r2).trans z3.rg).trans r4, c4, c5, ?_⟩
    · rw [z2]
      unfold f12_system_b51
      rw [aO_86 z4.1, c1, cI_some, if_pos rfl]
    · rw [c3 7 (by decide) (by decide), z3.2.1 7 ⟨by unfold tF; omega, by decide, by decide⟩, b4]
  · obtain ⟨M4, c1, c2, c3, c4, c5⟩ := g_ends z4
    have w4 := z4.1.sm c2
    have pn4 : PnB M4 1 Q' := z4.2.2.2.2.2.1.sm c2 (by decide)
    have wq' := z4.2.2.2.2.2.2
    have s5' := wq'.1.1
    have g6' := wq'.1.2.1
    have r14' := wq'.1.2.2.1
    have k4' := wq'.1.2.2.2.1
    obtain ⟨M5, d1, d2, d3⟩ := LM_sy62 w4 4 0 (by omega) FU (FU_big (by omega)) M4 (Sm.rfl _ _ _) (fun j hj => absurd hj (Nat.not_lt_zero _)) (fun _ _ => rfl)
    have w5 := w4.sm d2
    obtain ⟨M6, f1, f2, f3⟩ := LM_sy89 w5 12 0 (by omega) FU (FU_big (by omega)) M5 (Sm.rfl _ _ _) (fun j hj => absurd hj (Nat.not_lt_zero _)) (fun _ _ => rfl)
    have w6 := w5.sm f2
    obtain ⟨M7, g1, g2, g3⟩ := LM_sy118 w6 98 0 (by omega) FU (FU_big (by omega)) M6 (Sm.rfl _ _ _) (fun j hj => absurd hj (Nat.not_lt_zero _)) (fun _ _ => rfl)
    have w7 := w6.sm g2
    obtain ⟨M8, i1, i2, i3⟩ := LM_sy147 w7 24 0 (by omega) FU (FU_big (by omega)) M7 (Sm.rfl _ _ _) (fun j hj => absurd hj (Nat.not_lt_zero _)) (fun _ _ => rfl)
    have w8 := w7.sm i2
    have w9 : Wl (enM M8) := w8
    have sE : Sm [86] [] M8 (enM M8) := by unfold enM; rw [sI_e, sI_e, sI_e, sI_e, sI_e]; exact (((((Sm.rfl _ _ M8).uI _ (by decide)).uI _ (by decide)).uI _ (by decide)).uI _ (by decide)).uI _ (by decide)
    have fE : ∀ j, j ≠ 5 → j ≠ 19 → j ≠ 23 → j ≠ 31 → j ≠ 49 → mI (enM M8) 86 j = mI M8 86 j := fun j h1 h2 h3 h4 h5 => by
      unfold enM
      rw [mI_sI, if_neg (fun z => h5 z.2), mI_sI, if_neg (fun z => h4 z.2), mI_sI, if_neg (fun z => h3 z.2), mI_sI, if_neg (fun z => h2 z.2), mI_sI, if_neg (fun z => h1 z.2)]
    have q5 : mI (enM M8) 86 5 = nI 0 := by
      unfold enM
      rw [mI_sI, if_neg (by decide), mI_sI, if_neg (by decide), mI_sI, if_neg (by decide), mI_sI, if_neg (by decide), mI_sI, if_pos ⟨rfl, rfl⟩]
      rfl
    have q19 : mI (enM M8) 86 19 = 0 := by
      unfold enM
      rw [mI_sI, if_neg (by decide), mI_sI, if_neg (by decide), mI_sI, if_neg (by decide), mI_sI, if_pos ⟨rfl, rfl⟩]
    have q23 : mI (enM M8) 86 23 = 0 := by
      unfold enM
      rw [mI_sI, if_neg (by decide), mI_sI, if_neg (by decide), mI_sI, if_pos ⟨rfl, rfl⟩]
    have q31 : mI (enM M8) 86 31 = 0 := by
      unfold enM
      rw [mI_sI, if_neg (by decide), mI_sI, if_pos ⟨rfl, rfl⟩]
    have q49 : mI (enM M8) 86 49 = 0 := by
      unfold enM
      rw [mI_sI, if_pos ⟨rfl, rfl⟩]
    have s48 : Sm [87, 88, 89, 90] [] M4 M8 := (((d2.more (by decide) (by decide)).trans (f2.more (by decide) (by decide))).trans (g2.more (by decide) (by decide))).trans (i2.more (by decide) (by decide))
    have i86 : mI M8 86 = mI M4 86 := s48.i 86 (by decide)
    have e87 : ∀ j, j < 4 → mI (enM M8) 87 j = mI M4 87 (4 + j) := fun j hj => by rw [sE.i 87 (by decide), i2.i 87 (by decide), g2.i 87 (by decide), f2.i 87 (by decide)]; exact d3 j hj
    have e88 : ∀ j, j < 12 → mI (enM M8) 88 j = mI M4 88 (12 + j) := fun j hj => by rw [sE.i 88 (by decide), i2.i 88 (by decide), g2.i 88 (by decide), f3 j hj, d2.i 88 (by decide)]
    have e89 : ∀ j, j < 98 → mI (enM M8) 89 j = mI M4 89 (98 + j) := fun j hj => by rw [sE.i 89 (by decide), i2.i 89 (by decide), g3 j hj, f2.i 89 (by decide), d2.i 89 (by decide)]
    have e90 : ∀ j, j < 24 → mI (enM M8) 90 j = mI M4 90 (24 + j) := fun j hj => by rw [sE.i 90 (by decide), i3 j hj, g2.i 90 (by decide), f2.i 90 (by decide), d2.i 90 (by decide)]
    obtain ⟨-, p1, p2, p3, p4, p5, p6, p7, p8⟩ := pn4
    have pn9 : PnB (enM M8) 0 Q' := by
      refine ⟨by decide, ?_, ?_, ?_, ?_, fun p hp => ?_, fun g hg => ?_, fun r hr c hc => ?_, fun k hk c hc => ?_⟩
      · rw [e87 _ (by omega)]; exact p1
      · rw [e87 _ (by omega)]; exact p2
      · rw [e87 _ (by omega)]; exact p3
      · rw [e87 _ (by omega)]; exact p4
      · rw [e88 _ (by omega), show 12 + (12 * 0 + p) = 12 * 1 + p by omega]; exact p5 p hp
      · rw [e88 _ (by omega), show 12 + (12 * 0 + 6 + g) = 12 * 1 + 6 + g by omega]; exact p6 g hg
      · rw [e89 _ (by omega), show 98 + (98 * 0 + (7 * r + c)) = 98 * 1 + (7 * r + c) by omega]; exact p7 r hr c hc
      · have k3 := (wq'.1.2.2.2.2.2 k hk).2.1
        rw [e90 _ (by omega), show 24 + (24 * 0 + (6 * k + c)) = 24 * 1 + (6 * k + c) by omega]; exact p8 k hk c hc
    have sA : Sm [86, 87, 88, 89, 90] [] M (enM M8) := (((((r0.1.trans r1.1).trans r2.1).trans z3.1).trans (c2.more (by decide) (by decide))).trans (s48.more (by decide) (by decide))).trans (sE.more (by decide) (by decide))
    refine .inr ⟨Q', enM M8, z1, ?_, sA, ⟨⟨⟨w9, wq'.1, by decide, PgM.bank pn9 q5, q19, trivial, ?_⟩, ⟨.inl q31, fun z => by rw [q31] at z; exact absurd z (by decide)⟩, .inl q49⟩, rfl, pn9, wq'⟩, ?_, ?_, ?_, q23⟩
    · rw [z2]
      unfold f12_system_b51
      rw [aO_86 z4.1, c1, cI_some, if_neg (by decide)]
      refine d1.trans (f1.trans (g1.trans (i1.trans ?_)))
      have e2 : mI M7 87 2 = nI (pR Q'.1) := by rw [g2.i 87 (by decide), f2.i 87 (by decide), d3 2 (by omega)]; exact p3
      rw [e2]
    · unfold SzM
      rw [sA.i 96 (by decide)]
      exact sz
    · rw [fE 13 (by decide) (by decide) (by decide) (by decide) (by decide), i86, c4]
    · rw [fE 14 (by decide) (by decide) (by decide) (by decide) (by decide), i86, c5]
    · rw [fE 7 (by decide) (by decide) (by decide) (by decide) (by decide), i86, c3 7 (by decide) (by decide), z3.2.1 7 ⟨by unfold tF; omega, by decide, by decide⟩, b4]
end SYSTEMM
