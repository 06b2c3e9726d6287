/-! WHAT MATTERS -/
theorem xor_or {o k : Nat} (h : o.testBit k = false) : o ^^^ 2 ^ k = o ||| 2 ^ k := by
  apply Nat.eq_of_testBit_eq
  intro i
  rw [Nat.testBit_xor, Nat.testBit_or, Nat.testBit_two_pow]
  by_cases c : k = i
  · subst c
    simp [h]
  · simp [c]
theorem or_xor {o k : Nat} (h : o.testBit k = false) : (o ||| 2 ^ k) ^^^ 2 ^ k = o := by
  apply Nat.eq_of_testBit_eq
  intro i
  rw [Nat.testBit_xor, Nat.testBit_or, Nat.testBit_two_pow]
  by_cases c : k = i
  · subst c
    simp [h]
  · simp [c]
theorem or_lt {o k : Nat} (ho : o < 2 ^ 14) (hk : k < 14) : o ||| 2 ^ k < 2 ^ 14 := Nat.or_lt_two_pow ho (Nat.pow_lt_pow_right (by omega) hk)
def mtA (P : PG) (o : Nat) (nw : NW) (x : Int32) (r : Int64) : Prop := (nw = none → r = -2) ∧ (ibx (pR P) x = false → r = -2) ∧ ∀ k, k < pR P → x = nI k → (o.testBit k = true → r = -2) ∧ (o.testBit k = false → ∀ v v', costN P o (gTG P) nw v → costN P (o ||| 2 ^ k) (gTG P) nw v' → r = if v = FARN then -2 else if v' = FARN then -1 else lN v' - lN v)
theorem mtA_eq {P : PG} {o : Nat} {nw : NW} {x : Int32} {r r' : Int64} (hp : WP P) (hw : WN P nw) (a : mtA P o nw x r) (b : mtA P o nw x r') : r = r' := by
  have h14 := hp.2.2.1
  by_cases c : ibx (pR P) x = true
  · obtain ⟨k, hk, rfl⟩ := ibx_out c (by omega)
    obtain ⟨a1, a2⟩ := a.2.2 k hk rfl
    obtain ⟨b1, b2⟩ := b.2.2 k hk rfl
    by_cases c2 : o.testBit k = true
    · rw [a1 c2, b1 c2]
    · rw [Bool.not_eq_true] at c2
      obtain ⟨v, hv⟩ := costN_ex hp hw o (okT_g hp)
      obtain ⟨v', hv'⟩ := costN_ex hp hw (o ||| 2 ^ k) (okT_g hp)
      rw [a2 c2 v v' hv hv', b2 c2 v v' hv hv']
  · rw [Bool.not_eq_true] at c
    rw [a.2.1 c, b.2.1 c]
section MAT
variable {M : MM} {P : PG} {o : Nat} {nw : NW}
theorem costN_u (hp : WP P) {v v' : Nat} {T : TG} (a : costN P o T nw v) (b : costN P o T nw v') : v = v' := by
  rcases nw with _ | ⟨p, H, s⟩
  · rw [a.2, b.2]
  · obtain ⟨E, R, k⟩ := Std_ex hp o T
    rw [a.2.1 E R k, b.2.1 E R k]
theorem S11_isOut (h : CoC M P o nw) {k : Nat} (hk : k < 32) : f11_isOut M 1 (nI k) = some (bI (o.testBit k), M) := by
  have ho := h.lo
  unfold f11_isOut
  rw [aO_1 h.w, h.2.2.2.2.1, bU (by omega) hk]
  cases o.testBit k <;> rfl
theorem S11_matters (h : CoC M P o nw) (hc : CostC M P o) (x : Int32) : ∃ M' r, f11_matters M 1 x = some (r, M') ∧ Sm [1] [34, 36, 39, 41] M M' ∧ (∀ j, j ≠ 13 → mI M' 1 j = mI M 1 j) ∧ CoC M' P o nw ∧ CostC M' P o ∧ mtA P o nw x r := by
  have h14 := h.p.2.2.1
  obtain ⟨a1, b1, b2, b3⟩ := h.2.2.2.1
  have w := h.w
  have no : ∀ {Q : Prop}, (Q → mtA P o nw x (-2)) → Q → ∃ M' r, some ((-2 : Int64), M) = some (r, M') ∧ Sm [1] [34, 36, 39, 41] M M' ∧ (∀ j, j ≠ 13 → mI M' 1 j = mI M 1 j) ∧ CoC M' P o nw ∧ CostC M' P o ∧ mtA P o nw x r := fun f q => ⟨M, -2, rfl, Sm.rfl _ _ _, fun _ _ => rfl, h, hc, f q⟩
  unfold f11_matters
  rw [aO_1 w, r_1_2 w, aO_23 w, S6_isNone w h.2.2.2.2.2.1 h.2.2.2.2.2.2 h.p, cI_some]
  rcases nw with _ | ⟨p, H, s⟩
  · rw [if_neg (show ¬ bI (Option.isNone (none : NW)) = 0 by decide)]
    refine no (Q := True) (fun _ => ⟨fun _ => rfl, fun _ => rfl, fun k _ _ => ⟨fun _ => rfl, fun _ v v' hv _ => ?_⟩⟩) trivial
    rw [if_pos hv.2]
  · rw [if_pos (show bI (Option.isNone (some (p, H, s) : NW)) = 0 from rfl), aO_1 w, b1, b3.o w, S7_hasRule w b3, cI_some]
    by_cases c : ibx (pR P) x = true
    · obtain ⟨k, hk, rfl⟩ := ibx_out c (by omega)
      rw [c, bI_t, if_neg (by decide), aO_1 w, S11_isOut h (by omega), cI_some]
      by_cases c2 : o.testBit k = true
      · rw [c2, bI_t, if_neg (by decide)]
        refine no (Q := True) (fun _ => ⟨(fun q => by cases q), fun _ => rfl, fun k' hk' e => ⟨fun _ => rfl, fun q => ?_⟩⟩) trivial
        rw [nI_eq (by omega) (by omega)] at e
        rw [← e, c2] at q
        cases q
      · rw [Bool.not_eq_true] at c2
        obtain ⟨M1, E, R, d1, d2, d3, d4, d5, d6, d7, d8, d9⟩ := S11_costOfNow h hc
        have h1 := h.sm d2 (d3 12 (by decide)) (by decide)
        have hc1 : CostC M1 P o := ⟨.inr d4, ⟨E, R, d5, d6, d7, fun _ => d8⟩, by rw [d2.j 41 (by decide)]; exact hc.2.2⟩
        have w1 := h1.w
        obtain ⟨a1', b1', b2', b3'⟩ := h1.2.2.2.1
        obtain ⟨v, hv⟩ := costN_ex h.p h.2.2.2.2.2.2 o (okT_g h.p)
        obtain ⟨v', hv'⟩ := costN_ex h.p h.2.2.2.2.2.2 (o ||| 2 ^ k) (okT_g h.p)
        have ev : v = val 15 (eC E) (z15 (gTG P)) s H p := hv.2.1 E R d8
        have hm : ∀ r : Int64, r = (if v = FARN then -2 else if v' = FARN then -1 else lN v' - lN v) → mtA P o (some (p, H, s)) (nI k) r := fun r er => by
          refine ⟨(fun q => by cases q), fun q => ?_, fun k' hk' e => ⟨fun q => ?_, fun _ u u' hu hu' => ?_⟩⟩
          · rw [c] at q
            cases q
          · rw [nI_eq (by omega) (by omega)] at e
            rw [← e, c2] at q
            cases q
          · rw [nI_eq (by omega) (by omega)] at e
            subst e
            rw [costN_u h.p hu hv, costN_u h.p hu' hv', er]
        rw [c2, bI_f, if_pos rfl, aO_1 w, d1, cJ_some, ← ev, litF]
        simp only [lN_ltN (le63 hv.1) FARN_lt]
        by_cases cF : v < FARN
        · rw [if_pos cF, aO_1 w1, aO_1 w1, r_1_6 w1, aO_37 w1, b1']
          obtain ⟨E0, e0⟩ := lR_ex (mJ M1 39)
          obtain ⟨R0, e1, bR⟩ := hc1.2.2
          have st := S1_sfg w1 (a := 37) (.inr rfl) h.p b3' E0 R0
          rw [tw_self (a := 37) e0 e1] at st
          have wt : ∀ {E R}, Wl (tw M1 37 E R) := w1
          obtain ⟨E2, R2, f1, f2, f3, f4, f5, f6⟩ := S11_oth h1 b3' (o_lt (or_lt h.lo (show k < 14 by omega))) (allS (pG P) (gTG P)) E0 (ER (endS (gTG P)) R0) (z15 (gTG P)) (ER_bd bR) ER_z
          have ev' : v' = val 15 (eC E2) (z15 (gTG P)) s H p := hv'.2.1 E2 (z15 (gTG P)) ⟨f4, f5, f6, fun _ _ => rfl⟩
          rw [st, cV_some, aO_1 wt, aO_1 wt, aO_1 wt, r_1_6 wt, aO_37 wt, show mR (tw M1 37 (ES (allS (pG P) (gTG P)) E0) (ER (endS (gTG P)) R0)) 1 10 = a1' from b1', show mI (tw M1 37 (ES (allS (pG P) (gTG P)) E0) (ER (endS (gTG P)) R0)) 1 12 = nI o from h1.2.2.2.2.1, shl_nI (show k < 32 by omega), nI_or, f1, cV_some, aO_1 wt, aO_1 wt, r_1_6 wt, aO_37 wt, r_1_2 wt, f2, cJ_some, ← ev']
          simp only [lN_ltN (le63 hv'.1) FARN_lt]
          refine ⟨tw M1 37 E2 R2, if v' < FARN then lN v' - lN v else -1, ?_, (d2.more (fun _ q => q) (by decide)).trans ((tw_sm (a := 37)).more (by decide) (by decide)), fun j hj => d3 j hj, tw_C h1, hc1.ot f3, hm _ ?_⟩
          · by_cases cF2 : v' < FARN
            · rw [if_pos cF2, if_pos cF2]
            · rw [if_neg cF2, if_neg cF2]
          · rw [if_neg (show ¬ v = FARN by omega)]
            have := hv'.1
            by_cases cF2 : v' < FARN
            · rw [if_pos cF2, if_neg (show ¬ v' = FARN by omega)]
            · rw [if_neg cF2, if_pos (show v' = FARN by omega)]
        · rw [if_neg cF]
          have := hv.1
          exact ⟨M1, -2, rfl, d2.more (fun _ q => q) (by decide), d3, h1, hc1, hm _ (by rw [if_pos (by omega)])⟩
    · rw [Bool.not_eq_true] at c
      rw [c, bI_f, if_pos rfl]
      refine no (Q := True) (fun _ => ⟨(fun q => by cases q), fun _ => rfl, fun k hk e => ?_⟩) trivial
      rw [e, ibx_nI (by omega) (by omega), decide_eq_true hk] at c
      cases c
theorem SM_matters (h : CoM M P o nw) (ht : ToldOK M P o) (x : Int32) : ∃ M' r, f12_matters M 86 x = some (r, M') ∧ Sm [86, 95, 96, 97, 98] [99, 100, 101] M M' ∧ (∀ j, j ≠ 0 → j ≠ 30 → j ≠ 31 → mI M' 86 j = mI M 86 j) ∧ CoM M' P o nw ∧ ToldOK M' P o ∧ mtA P o nw x r := by
  have h14 := h.p.2.2.1
  have w := h.w
  have w0 : Wl (sI M 86 0 0) := w
  unfold f12_matters
  rw [aO_86 w, bM_e, aO_86 w0]
  rcases nw with _ | ⟨p, H, s⟩
  · rw [SM_cost0 (h.th 0), cJ_some, if_pos (by decide)]
    refine ⟨_, _, rfl, (th_sm.trans th_sm).more (by decide) (by decide), fun j q _ _ => (th_f q).trans (th_f q), (h.th 0).th 0, (ht.th 0).th 0, fun _ => rfl, fun _ => rfl, fun k _ _ => ⟨fun _ => rfl, fun _ v v' hv _ => ?_⟩⟩
    rw [if_pos hv.2]
  · obtain ⟨M1, F, gg, a1, a2, a3, a4, a5, a6, a7, a8, a9, a10⟩ := SM_costR (h.th 0) (ht.th 0)
    obtain ⟨v, hv⟩ := costN_ex (nw := some (p, H, s)) h.p h.2.2.2.2.2.1 o (okT_g h.p)
    have ev := hv.2.2 F _ a6 (okD_X a4)
    have fr : ∀ j, j ≠ 0 → j ≠ 30 → j ≠ 31 → mI M1 86 j = mI M 86 j := fun j q0 q1 q2 => (a3 j q0 q1 q2).trans (th_f q0)
    have sm : Sm [86, 95, 96, 97, 98] [99, 100, 101] M M1 := (th_sm.more (by decide) (by decide)).trans (a2.more (fun _ q => q) (by decide))
    have w1 := a7.w
    have no : mtA P o (some (p, H, s)) x (-2) → ∃ M' r, some ((-2 : Int64), M1) = some (r, M') ∧ Sm [86, 95, 96, 97, 98] [99, 100, 101] M M' ∧ (∀ j, j ≠ 0 → j ≠ 30 → j ≠ 31 → mI M' 86 j = mI M 86 j) ∧ CoM M' P o (some (p, H, s)) ∧ ToldOK M' P o ∧ mtA P o (some (p, H, s)) x r := fun q => ⟨M1, -2, rfl, sm, fr, a7, a8, q⟩
    rw [a1, cJ_some, ← ev]
    simp only [mjv_lt0 hv.1]
    by_cases cF : v = FARN
    · rw [if_pos cF]
      refine no ⟨(fun q => by cases q), fun _ => rfl, fun k _ _ => ⟨fun _ => rfl, fun _ u u' hu _ => ?_⟩⟩
      rw [costN_u h.p hu hv, if_pos cF]
    · rw [if_neg cF, aO_86 w1, SM_isRule w1 a7.pg h.p, cI_some]
      by_cases c : ibx (pR P) x = true
      · obtain ⟨k, hk, rfl⟩ := ibx_out c (by omega)
        rw [c, bI_t, if_neg (by decide), aO_86 w1, a7.pg.oo, SM_isOf (o_lt h.2.2.1) (by omega), cI_some]
        by_cases c2 : o.testBit k = true
        · rw [c2, bI_t, if_neg (by decide)]
          refine no ⟨(fun q => by cases q), fun _ => rfl, fun k' hk' e => ⟨fun _ => rfl, fun q => ?_⟩⟩
          rw [nI_eq (by omega) (by omega)] at e
          rw [← e, c2] at q
          cases q
        · rw [Bool.not_eq_true] at c2
          have e14 := or_lt h.2.2.1 (show k < 14 by omega)
          obtain ⟨M2, hM2⟩ : ∃ M2, M2 = sI M1 86 5 (nI (o ||| 2 ^ k)) := ⟨_, rfl⟩
          have s2 : Sm [86] [] M1 M2 := by rw [hM2]; exact (Sm.rfl _ _ M1).uI _ (by decide)
          have f2 : ∀ j, j ≠ 5 → mI M2 86 j = mI M1 86 j := fun j hj => by rw [hM2, mI_sI, if_neg (fun q => hj q.2)]
          have t2 : TgM M2 (gTG P) := a4.sm s2 (f2 30 (by decide)) (by decide) (by decide) (by decide) (by decide)
          have w2 : Wl M2 := w1.sm s2
          have h2 : CoM M2 P (o ||| 2 ^ k) (some (p, H, s)) := by
            obtain ⟨x1, x2, x3, x4, x5, x6, x7⟩ := a7
            refine ⟨w2, x2, e14, ?_, x5.sm s2 (fun j _ _ => f2 j (by omega)) (by decide), x6, t2.2.2.1⟩
            unfold PgM at x4 ⊢
            rw [s2.i 87 (by decide), s2.i 89 (by decide), s2.i 90 (by decide)]
            exact ⟨by rw [hM2, mI_sI, if_pos ⟨rfl, rfl⟩], x4.2⟩
          obtain ⟨M4, F2, gg2, Ab, g1, g2, g3, g4⟩ := M_other h2 t2 (okT_g h.p)
          have w3 : Wl (uJ M2 100 (mjR F2 gg2)) := w2
          have w4 : Wl M4 := by rw [g2]; exact w2
          obtain ⟨v', hv'⟩ := costN_ex (nw := some (p, H, s)) h.p h.2.2.2.2.2.1 (o ||| 2 ^ k) (okT_g h.p)
          have ev' := hv'.2.2 F2 _ g3 (okD_X t2)
          have o4 : mI M4 86 5 = nI (o ||| 2 ^ k) := by
            rw [g2, mI_uJ, mI_uJ, hM2, mI_sI, if_pos ⟨rfl, rfl⟩]
          rw [c2, bI_f, if_pos rfl, aO_86 w1, aO_86 w1, bM_e, a7.pg.oo, shl_nI (show k < 32 by omega), nI_xor, xor_or c2, ← hM2, aO_86 w2, aO_86 w2, r_86_29 w2, g1, cV_some, aO_86 w3, aO_86 w3, r_86_29 w3, g4, cJ_some, aO_86 w4, aO_86 w4, o4, nI_xor, or_xor c2, bM_e, ← ev']
          obtain ⟨M5, hM5⟩ : ∃ M5, M5 = sI M4 86 5 (nI o) := ⟨_, rfl⟩
          rw [← hM5]
          simp only [mjv_0le hv'.1]
          have s4 : Sm [86] [100, 101] M1 M5 := by
            rw [hM5, g2]
            exact (((s2.more (fun _ q => q) (fun _ q => by cases q)).uJ _ (by decide)).uJ _ (by decide)).uI _ (by decide)
          have f5 : ∀ j, mI M5 86 j = mI M1 86 j := fun j => by
            rw [hM5, mI_sI]
            by_cases q : j = 5
            · rw [if_pos ⟨rfl, q⟩, q, a7.pg.oo]
            · rw [if_neg (fun z => q z.2), g2]
              exact f2 j q
          have z5 : SzM M5 := by
            unfold SzM
            rw [s4.i 96 (by decide)]
            exact a7.sz
          refine ⟨M5, if v' = FARN then -1 else lN v' - lN v, ?_, sm.trans (s4.more (by decide) (by decide)), fun j q0 q1 q2 => (f5 j).trans (fr j q0 q1 q2), a7.sm s4 (f5 5) (fun j _ _ => f5 j) z5 (by decide), ?_, ?_⟩
          · by_cases cF2 : v' = FARN
            · rw [if_neg (fun q => q cF2), if_pos cF2]
            · rw [if_pos cF2, if_neg cF2, mjv_small (by have := hv'.1; unfold FARN CAPN at *; omega), mjv_small (by have := hv.1; unfold FARN CAPN at *; omega)]
          · unfold ToldOK at *
            rw [f5 31, s4.j 99 (by decide)]
            exact a8
          · refine ⟨(fun q => by cases q), fun q => ?_, fun k' hk' e => ⟨fun q => ?_, fun _ u u' hu hu' => ?_⟩⟩
            · rw [c] at q
              cases q
            · rw [nI_eq (by omega) (by omega)] at e
              rw [← e, c2] at q
              cases q
            · rw [nI_eq (by omega) (by omega)] at e
              subst e
              rw [costN_u h.p hu hv, costN_u h.p hu' hv', if_neg cF]
      · rw [Bool.not_eq_true] at c
        rw [c, bI_f, if_pos rfl]
        refine no ⟨(fun q => by cases q), fun _ => rfl, fun k hk e => ?_⟩
        rw [e, ibx_nI (by omega) (by omega), decide_eq_true hk] at c
        cases c
end MAT
