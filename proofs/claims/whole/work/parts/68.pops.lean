/-! POPS, WHAT MATTERS, WHAT COMES UP AT WHAT COST -/
section POPS
variable {M : MM} {P : PG} {o : Nat} {nw : NW}
theorem CoC.w (h : CoC M P o nw) : Wl M := h.1
theorem CoC.p (h : CoC M P o nw) : WP P := h.2.1
theorem CoC.lo (h : CoC M P o nw) : o < 2 ^ 14 := h.2.2.1
theorem CoM.w (h : CoM M P o nw) : Wl M := h.1
theorem CoM.p (h : CoM M P o nw) : WP P := h.2.1
theorem CoM.pg (h : CoM M P o nw) : PgM M P o := h.2.2.2.1
theorem CoM.sz (h : CoM M P o nw) : SzM M := h.2.2.2.2.2.2
theorem S11_pops (h : CoC M P o nw) (hc : CostC M P o) {p g q : Nat} (hp : p < pS P) (hg : g < pG P) (hq : q < pS P) {F : Nat → Nat} (hF : Net P o (gTG P) F) :
    ∃ M', f11_pops M 1 (nI p) (nI g) (nI q) = some (mjv (F (ix 21 p g q)), M') ∧ Sm [1] [34, 36] M M' ∧ (∀ j, j ≠ 13 → mI M' 1 j = mI M 1 j) ∧ CoC M' P o nw ∧ CostC M' P o := by
  have p5 := h.p.1
  have g6 := h.p.2.1
  have h' := h
  obtain ⟨w, wp, ho, ⟨a1, b1, b2, b3⟩, a5, a6, a7⟩ := h
  obtain ⟨M1, E, R, d1, d2, d3, d4, d5, d6, d7, d8⟩ := S11_settle h' hc
  have h1 := h'.sm d2 (d3 12 (by decide)) (by decide)
  have w1 := h1.w
  have ee : E (ix 15 p g q) = F (ix 21 p g q) := (GC_sim wp (okT_g wp) (okD_T _) d8.2.1 hF).pop (by omega) (by omega) (by omega)
  have b := d8.1 _ (ix15_lt (show p < 15 by omega) (show g < 6 by omega) (show q < 15 by omega))
  refine ⟨M1, ?_, d2, d3, h1, .inr d4, ⟨E, R, d5, d6, d7, fun _ => d8⟩, by rw [d2.j 41 (by decide)]; exact hc.2.2⟩
  unfold f11_pops
  rw [aO_1 w, b1, b3.o w, S7_hasState w b3, cI_some, ibx_nI (by omega) (by omega), decide_eq_true hp, bI_t, if_neg (by decide), aO_1 w, b1, b3.o w, S7_hasSign w b3, cI_some, ibx_nI (by omega) (by omega), decide_eq_true hg, bI_t, if_neg (by decide), aO_1 w, b1, b3.o w, S7_hasState w b3, cI_some, ibx_nI (by omega) (by omega), decide_eq_true hq, bI_t, if_neg (by decide), aO_1 w, d1, cV_some, aO_1 w1, r_1_5 w1, aO_32 w1, S1_edge (a := 32) w1 (.inl rfl) (by omega) (by omega) (by omega), cJ_some, d5]
  show cJ (f11_told M1 (lN (E (ix 15 p g q)))) _ = _
  rw [S11_told b, cJ_some, ee]
theorem SM_isHead (h : CoM M P o nw) (x y : Int32) : f12_isHead M 86 x y = some (bI (ibx (pS P) x && ibx (pG P) y), sI M 86 0 (bI (!(ibx (pS P) x && ibx (pG P) y)))) := by
  have w := h.w
  have ww : ∀ v, Wl (sI M 86 0 v) := fun _ => w
  have e0 : ∀ v, mI (sI M 86 0 v) 86 0 = v := fun v => by rw [mI_sI, if_pos ⟨rfl, rfl⟩]
  unfold f12_isHead f12_isHead_b21 f12_isHead_b22
  rw [aO_86 w, SM_isState w h.pg h.p, cI_some, aO_86 w, SM_isSign w h.pg h.p, cI_some]
  simp only [aO_86 w, bM_e, aO_86 (ww _), e0]
  cases ibx (pS P) x <;> cases ibx (pG P) y <;> rfl
theorem SM_pops (h : CoM M P o nw) (ht : ToldOK M P o) (x y z : Int32) : ∃ M' r, f12_pops M 86 x y z = some (r, M') ∧ Sm [86, 95, 96, 97, 98] [99] M M' ∧ (∀ j, j ≠ 0 → j ≠ 30 → j ≠ 31 → mI M' 86 j = mI M 86 j) ∧ CoM M' P o nw ∧ ToldOK M' P o ∧ mI M' 86 0 = bI (!(ibx (pS P) x && ibx (pG P) y && ibx (pS P) z)) ∧
    ∀ p g q F, p < pS P → g < pG P → q < pS P → x = nI p → y = nI g → z = nI q → Net P o (gTG P) F → r = mjv (F (ix 21 p g q)) := by
  have w := h.w
  have ww : ∀ v, Wl (sI M 86 0 v) := fun _ => w
  have p5 := h.p.1
  have g6 := h.p.2.1
  have out : ∀ (M1 : MM) (u : Int32), M1 = sI M 86 0 u → (ibx (pS P) x && ibx (pG P) y && ibx (pS P) z) = false → ∃ M' r, f12_pops_b17 M1 86 = some (r, M') ∧ Sm [86, 95, 96, 97, 98] [99] M M' ∧ (∀ j, j ≠ 0 → j ≠ 30 → j ≠ 31 → mI M' 86 j = mI M 86 j) ∧ CoM M' P o nw ∧ ToldOK M' P o ∧ mI M' 86 0 = bI (!(ibx (pS P) x && ibx (pG P) y && ibx (pS P) z)) ∧
    ∀ p g q F, p < pS P → g < pG P → q < pS P → x = nI p → y = nI g → z = nI q → Net P o (gTG P) F → r = mjv (F (ix 21 p g q)) := by
    rintro M1 u rfl hb
    refine ⟨sI (sI M 86 0 u) 86 0 1, 0, ?_, (th_sm.trans th_sm).more (by decide) (by decide), fun j q _ _ => (th_f q).trans (th_f q), (h.th u).th 1, (ht.th u).th 1, ?_, ?_⟩
    · unfold f12_pops_b17
      rw [aO_86 (ww u), bM_e]
    · rw [mI_sI, if_pos ⟨rfl, rfl⟩, hb]
      rfl
    · rintro p g q F hp hg hq rfl rfl rfl -
      rw [ibx_nI (by omega) (by omega), ibx_nI (by omega) (by omega), ibx_nI (by omega) (by omega), decide_eq_true hp, decide_eq_true hg, decide_eq_true hq] at hb
      exact absurd hb (by decide)
  unfold f12_pops
  rw [aO_86 w, SM_isHead h, cI_some]
  by_cases c : (ibx (pS P) x && ibx (pG P) y) = true
  · rw [c, bI_t, if_neg (by decide), aO_86 (ww _), SM_isState (ww _) (h.th _).pg h.p, cI_some]
    by_cases c2 : ibx (pS P) z = true
    · obtain ⟨M1, F1, gg, b1, b2, b3, b4, b5, b6, b7, b8, b9⟩ := SM_told2 (h.th (bI !true)) (ht.th (bI !true))
      have w1 := b8.w
      rw [c2, bI_t, if_neg (by decide), aO_86 (ww _), b1, cV_some, aO_86 w1, aO_86 w1, r_86_28 w1]
      rw [Bool.and_eq_true] at c
      obtain ⟨p, hp, rfl⟩ := ibx_out c.1 (by omega)
      obtain ⟨g, hg, rfl⟩ := ibx_out c.2 (by omega)
      obtain ⟨q, hq, rfl⟩ := ibx_out c2 (by omega)
      have hi := ix21_lt (show p < 5 by omega) (show g < 6 by omega) (show q < 21 by omega)
      rw [SM_costOf w1 (.inl rfl) (by omega) (by omega) (by omega), cJ_some, b6]
      refine ⟨M1, _, rfl, (th_sm.more (by decide) (by decide)).trans b2, fun j q0 q1 q2 => (b3 j q1 q2).trans (th_f q0), b8, b9, ?_, ?_⟩
      · rw [b3 0 (by decide) (by decide), mI_sI, if_pos ⟨rfl, rfl⟩]
        rfl
      · intro p' g' q' F' hp' hg' hq' e1 e2 e3 hF'
        rw [nI_eq (by omega) (by omega)] at e1 e2 e3
        subst e1 e2 e3
        rw [show mjR F1 gg (ix 21 p g q) = mjv (F1 (ix 21 p g q)) from if_pos hi, GC_uniq b7 hF' _ hi]
    · rw [Bool.not_eq_true] at c2
      rw [c2, bI_f, if_pos rfl]
      have q := out (sI M 86 0 (bI (!true))) (bI (!true)) rfl (by rw [c2, Bool.and_false])
      rw [c, c2] at q
      exact q
  · rw [Bool.not_eq_true] at c
    rw [c, bI_f, if_pos rfl]
    have q := out (sI M 86 0 (bI (!false))) (bI (!false)) rfl (by rw [c, Bool.false_and])
    rw [c] at q
    exact q
end POPS
