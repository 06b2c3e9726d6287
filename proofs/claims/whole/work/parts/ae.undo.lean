/-! ACTS: undone; rules out -/
section UNDO
variable {P : PG} {o : Nat} {nw : NW}
def poM (M : MM) (o : Nat) : MM := sI (sI (sI M 1 12 (nI o)) 1 13 0) 1 14 0
theorem poM_e {M : MM} {o' : Nat} : Sm [1] [] M (poM M o') ∧ mI (poM M o') 1 12 = nI o' ∧ mI (poM M o') 1 13 = 0 ∧ mI (poM M o') 1 14 = 0 ∧ ∀ j, j ≠ 12 → j ≠ 13 → j ≠ 14 → mI (poM M o') 1 j = mI M 1 j := by
  unfold poM
  refine ⟨?_, ?_, ?_, ?_, fun j h1 h2 h3 => ?_⟩
  · rw [sI_e, sI_e, sI_e]
    exact (((Sm.rfl _ _ M).uI _ (by decide)).uI _ (by decide)).uI _ (by decide)
  · rw [mI_sI, if_neg (by decide), mI_sI, if_neg (by decide), mI_sI, if_pos ⟨rfl, rfl⟩]
  · rw [mI_sI, if_neg (by decide), mI_sI, if_pos ⟨rfl, rfl⟩]
  · rw [mI_sI, if_pos ⟨rfl, rfl⟩]
  · rw [mI_sI, if_neg (fun z => h3 z.2), mI_sI, if_neg (fun z => h2 z.2), mI_sI, if_neg (fun z => h1 z.2)]
theorem S11_putOut {M : MM} (w : Wl M) (o' : Nat) : f11_putOut M 1 (nI o') = some (poM M o') := by
  have w1 : Wl (sI M 1 12 (nI o')) := w
  have w2 : Wl (sI (sI M 1 12 (nI o')) 1 13 0) := w
  unfold f11_putOut
  rw [aO_1 w, bM_e, aO_1 w1, bM_e, aO_1 w2, bM_e]
  rfl
theorem ActC.sm {M M' : MM} {n : Nat} {A : Nat → NW × Nat} (h : ActC M n A) {Is Js : List Nat} (s : Sm Is Js M M') (hi : avd [29, 31] Is = true) : ActC M' n A := by
  unfold ActC at *
  rw [s.i 29 (avd_n hi (by decide)), s.i 31 (avd_n hi (by decide))]
  exact h
theorem CoC.outs {M : MM} {o' : Nat} {nw' : NW} (h : CoC M P o nw) {M' : MM} {Is Js : List Nat} (s : Sm Is Js M M') (h1 : mI M' 1 12 = nI o') (ho : o' < 2 ^ 14) (hh : HereC M' nw') (hw : WN P nw') (hi : avd [4, 10, 12, 13, 19, 21] Is = true) : CoC M' P o' nw' := by
  obtain ⟨a1, a2, a3, ⟨b, b1, b2, b3⟩, a5, a6, a7⟩ := h
  exact ⟨a1.sm s, a2, ho, ⟨b, by rw [s.r]; exact b1, by rw [s.r]; exact b2, b3.sm s hi⟩, h1, hh, hw⟩
theorem S11_undo0 {M : MM} {A : Nat → NW × Nat} (h : CoC M P o nw) (ha : ActC M 0 A) : f11_undo M 1 = some (0, M) := by
  have w := h.1
  obtain ⟨old, a1, a2, a3, a4⟩ := ha
  unfold f11_undo
  rw [aO_1 w, r_1_4 w, aO_29 w, a3, if_pos (show nI 0 = 0 from rfl)]
theorem S11_undo {M : MM} {n : Nat} {A : Nat → NW × Nat} (h : CoC M P o nw) (ha : ActC M (n + 1) A) (hA : ActW P (n + 1) A) : ∃ M', f11_undo M 1 = some (1, M') ∧ Sm [1, 23, 25, 29] [] M M' ∧ (∀ j, j ≠ 12 → j ≠ 13 → j ≠ 14 → mI M' 1 j = mI M 1 j) ∧ CoC M' P (A n).2 (A n).1 ∧ ActC M' n A ∧ mI M' 1 13 = 0 ∧ mI M' 1 14 = 0 := by
  have w := h.1
  obtain ⟨M1, b1, b2, b3, b4⟩ := S0_takeBack w h.2.2.2.2.2.1 h.2.2.2.2.2.2 ha hA
  have w1 := w.sm b2
  obtain ⟨p1, p2, p3, p4, p5⟩ := poM_e (M := M1) (o' := (A n).2)
  have sA : Sm [1, 23, 25, 29] [] M (poM M1 (A n).2) := (b2.more (by decide) (by decide)).trans (p1.more (by decide) (by decide))
  refine ⟨poM M1 (A n).2, ?_, sA, fun j h1 h2 h3 => by rw [p5 j h1 h2 h3, b2.i 1 (by decide)], h.outs sA p2 (hA n (by omega)).2 (b4.sm p1 (by decide)) (hA n (by omega)).1 (by decide), b3.sm p1 (by decide), p3, p4⟩
  obtain ⟨old, a1, a2, a3, a4, -⟩ := ha
  unfold f11_undo
  rw [aO_1 w, r_1_4 w, aO_29 w, a3, if_neg (by rw [c_eq0 (by omega)]; omega), aO_1 w, aO_1 w, r_1_2 w, aO_29 w, b1, cI_some, aO_1 w1, S11_putOut w1, cV_some]
theorem S11_out {M : MM} {n : Nat} {A : Nat → NW × Nat} (h : CoC M P o nw) (ha : ActC M n A) (hA : ActW P n A) (x y : Int32) : ∃ M' r, f11_out M 1 x y = some (r, M') ∧ ((ibx (pR P) x = false → r = 0 ∧ M' = M) ∧ ∀ k, k < pR P → x = nI k → (bI (o.testBit k) = y → r = 0 ∧ M' = M) ∧ (bI (o.testBit k) ≠ y → r = 1 ∧ Sm [1, 29, 31] [] M M' ∧ (∀ j, j ≠ 12 → j ≠ 13 → j ≠ 14 → mI M' 1 j = mI M 1 j) ∧ CoC M' P (o ^^^ 2 ^ k) nw ∧ ActC M' (kpN n) (kpA n A (nw, o)) ∧ mI M' 1 13 = 0 ∧ mI M' 1 14 = 0)) := by
  have w := h.1
  have hp := h.2.1
  have r14 := hp.2.2.1
  have ho := h.2.2.1
  obtain ⟨a1, e1, e3⟩ := h.pr
  unfold f11_out
  rw [aO_1 w, e1, e3.oP w, S7_hasRule w e3, cI_some]
  by_cases c : ibx (pR P) x = true
  · obtain ⟨k, hk, rfl⟩ := ibx_out c (by omega)
    rw [c, bI_t, if_neg (by decide), aO_1 w, S11_isOut h (by omega), cI_some]
    by_cases c2 : bI (o.testBit k) = y
    · rw [if_pos c2]
      refine ⟨M, 0, rfl, (fun z => by cases z), fun k' hk' e => ?_⟩
      rw [nI_eq (by omega) (by omega)] at e
      rw [← e]
      exact ⟨fun _ => ⟨rfl, rfl⟩, fun z => absurd c2 z⟩
    · rw [if_neg c2, aO_1 w, aO_1 w, aO_1 w, r_1_4 w, aO_29 w, r_1_2 w, h.2.2.2.2.1]
      obtain ⟨M1, b1, b2, b3⟩ := S0_keep (o := o) w h.2.2.2.2.2.1 h.2.2.2.2.2.2 ha hA
      have w1 := w.sm b2
      have e12 : mI M1 1 12 = nI o := by rw [b2.i 1 (by decide)]; exact h.2.2.2.2.1
      have xo : o ^^^ 2 ^ k < 2 ^ 14 := Nat.xor_lt_two_pow ho (Nat.pow_lt_pow_right (by omega) (by omega))
      obtain ⟨p1, p2, p3, p4, p5⟩ := poM_e (M := M1) (o' := o ^^^ 2 ^ k)
      have sA : Sm [1, 29, 31] [] M (poM M1 (o ^^^ 2 ^ k)) := (b2.more (by decide) (by decide)).trans (p1.more (by decide) (by decide))
      refine ⟨poM M1 (o ^^^ 2 ^ k), 1, ?_, (fun z => by cases z), fun k' hk' e => ?_⟩
      · rw [b1, cV_some, aO_1 w1, aO_1 w1, e12, shl_nI (by omega), nI_xor, S11_putOut w1, cV_some]
      · rw [nI_eq (by omega) (by omega)] at e
        rw [← e]
        exact ⟨fun z => absurd z c2, fun _ => ⟨rfl, sA, fun j h1 h2 h3 => by rw [p5 j h1 h2 h3, b2.i 1 (by decide)], h.outs sA p2 xo (h.2.2.2.2.2.1.sm sA (by decide)) h.2.2.2.2.2.2 (by decide), b3.sm p1 (by decide), p3, p4⟩⟩
  · rw [Bool.not_eq_true] at c
    rw [c, bI_f, if_pos rfl]
    refine ⟨M, 0, rfl, fun _ => ⟨rfl, rfl⟩, fun k hk e => ?_⟩
    rw [e, ibx_nI (by omega) (by omega), decide_eq_true hk] at c
    cases c
/-! the reference -/
theorem LM_un89 {M0 : MM} (w0 : Wl M0) {b : Nat} (hb : b + 44 ≤ 528) : ∀ (d i : Nat), i + d = 40 → ∀ f, d < f → ∀ M, Sm [92] [] M0 M → (∀ k, k < i → mI M 92 k = mI M0 94 (b + 4 + k)) →
    ∃ M', LP4 f12_undo_b89_body f M 86 (nI b) (nI i) = some (1, M') ∧ Sm [92] [] M0 M' ∧ ∀ k, k < 40 → mI M' 92 k = mI M0 94 (b + 4 + k)
  | 0, i, hi, f + 1, _, M, s, hk => by
    have w := w0.sm s
    have e : i = 40 := by omega
    rw [e] at hk ⊢
    refine ⟨M, ?_, s, hk⟩
    rw [LP4_s]
    generalize LP4 f12_undo_b89_body f = K
    unfold f12_undo_b89_body
    rw [show (40 : Int32) = nI 40 from rfl, if_pos (nI_le (Nat.le_refl _) (by omega))]
  | d + 1, i, hi, f + 1, hf, M, s, hk => by
    have w := w0.sm s
    obtain ⟨M1, hM1⟩ : ∃ M1, M1 = uI M 92 (upx (mI M 92) i (mI M 94 (b + 4 + i))) := ⟨_, rfl⟩
    obtain ⟨M', k1, k2⟩ := LM_un89 w0 hb d (i + 1) (by omega) f (by omega) M1 (by rw [hM1]; exact s.uI _ (by decide)) (fun k hk' => by
      rw [hM1, mI_uI, if_pos rfl, upx_e]
      by_cases e : k = i
      · rw [if_pos e, e, s.i 94 (by decide)]
      · rw [if_neg e]
        exact hk k (by omega))
    refine ⟨M', ?_, k2⟩
    rw [← k1, LP4_s]
    generalize LP4 f12_undo_b89_body f = K
    unfold f12_undo_b89_body
    rw [show (40 : Int32) = nI 40 from rfl, if_neg (nI_ge (by omega) (by omega)), aO_86 w, aO_86 w, r_86_22 w, lit_4, nI_add, nI_add, aA_94 w (by omega), r_86_17 w, aA_92 w (by omega), bM_e, sI_e, nI_clamp (by omega), nI_clamp (by omega), ← hM1, nI_1]
theorem SM_outsAre {M : MM} (w : Wl M) (h5 : mI M 86 5 = nI o) (ho : o < 2 ^ 14) {o' : Nat} (ho' : o' < 2 ^ 14) : ∃ M', f12_outsAre M 86 (nI o') = some M' ∧ Sm [86] [] M M' ∧ (∀ j, j ≠ 5 → j ≠ 31 → j ≠ 49 → mI M' 86 j = mI M 86 j) ∧ mI M' 86 5 = nI o' ∧ ((o' = o ∧ mI M' 86 31 = mI M 86 31 ∧ mI M' 86 49 = mI M 86 49) ∨ (mI M' 86 31 = 0 ∧ mI M' 86 49 = 0)) := by
  unfold f12_outsAre
  rw [aO_86 w, h5]
  simp only [c_eq (show o' < 2 ^ 31 by omega) (show o < 2 ^ 31 by omega)]
  by_cases c : o' = o
  · rw [if_pos c]
    refine ⟨sI M 86 5 (nI o'), ?_, by rw [sI_e]; exact (Sm.rfl _ _ M).uI _ (by decide), fun j h1 h2 h3 => by rw [mI_sI, if_neg (fun z => h1 z.2)], by rw [mI_sI, if_pos ⟨rfl, rfl⟩], .inl ⟨c, by rw [mI_sI, if_neg (by decide)], by rw [mI_sI, if_neg (by decide)]⟩⟩
    unfold f12_outsAre_b18
    rw [aO_86 w, bM_e]
  · rw [if_neg c]
    have w1 : Wl (sI M 86 31 0) := w
    have w2 : Wl (sI (sI M 86 31 0) 86 49 0) := w
    refine ⟨sI (sI (sI M 86 31 0) 86 49 0) 86 5 (nI o'), ?_, by rw [sI_e, sI_e, sI_e]; exact (((Sm.rfl _ _ M).uI _ (by decide)).uI _ (by decide)).uI _ (by decide), fun j h1 h2 h3 => by rw [mI_sI, if_neg (fun z => h1 z.2), mI_sI, if_neg (fun z => h3 z.2), mI_sI, if_neg (fun z => h2 z.2)], by rw [mI_sI, if_pos ⟨rfl, rfl⟩], .inr ⟨by rw [mI_sI, if_neg (by decide), mI_sI, if_neg (by decide), mI_sI, if_pos ⟨rfl, rfl⟩], by rw [mI_sI, if_neg (by decide), mI_sI, if_pos ⟨rfl, rfl⟩]⟩⟩
    unfold f12_outsAre_b18
    rw [aO_86 w, bM_e, aO_86 w1, bM_e, aO_86 w2, bM_e]
/-- the reference's side, all but the acts -/
def AlM (M : MM) (P : PG) (o : Nat) (nw : NW) : Prop := CoM M P o nw ∧ ToldOK M P o ∧ MaM M P o
theorem AlM.outs {M M' : MM} {o' : Nat} {nw' : NW} (h : AlM M P o nw) {Is Js : List Nat} (s : Sm Is Js M M') (hi : avd [87, 89, 90, 96, 111, 112, 113] Is = true) (hj : 99 ∉ Js) (h5 : mI M' 86 5 = nI o') (ho : o' < 2 ^ 14) (hh : HereM M' nw') (hw : WN P nw') (h47 : mI M' 86 47 = mI M 86 47) (h48 : mI M' 86 48 = mI M 86 48) (hx : (o' = o ∧ mI M' 86 31 = mI M 86 31 ∧ mI M' 86 49 = mI M 86 49) ∨ (mI M' 86 31 = 0 ∧ mI M' 86 49 = 0)) : AlM M' P o' nw' := by
  obtain ⟨⟨a1, a2, a3, a4, a5, a6, a7⟩, b, c⟩ := h
  have sz : SzM M' := by
    unfold SzM
    rw [s.i 96 (avd_n hi (by decide))]
    exact a7
  have pg : PgM M' P o' := by
    obtain ⟨-, p2, p3, p4, p5, p6, p7⟩ := a4
    refine ⟨h5, ?_, ?_, ?_, ?_, ?_, ?_⟩
    · rw [s.i 87 (avd_n hi (by decide))]; exact p2
    · rw [s.i 87 (avd_n hi (by decide))]; exact p3
    · rw [s.i 87 (avd_n hi (by decide))]; exact p4
    · rw [s.i 87 (avd_n hi (by decide))]; exact p5
    · rw [s.i 89 (avd_n hi (by decide))]; exact p6
    · rw [s.i 90 (avd_n hi (by decide))]; exact p7
  refine ⟨⟨a1.sm s, a2, ho, pg, hh, hw, sz⟩, ?_, ?_⟩
  · rcases hx with ⟨x1, x2, x3⟩ | ⟨x1, x2⟩
    · unfold ToldOK at *
      rw [x1, x2, s.j 99 hj]
      exact b
    · exact ⟨.inl x1, fun z => by rw [x1] at z; exact absurd z (by decide)⟩
  · rcases hx with ⟨x1, x2, x3⟩ | ⟨x1, x2⟩
    · rw [x1]
      exact c.sm s h47 h48 x3 (List.all_eq_true.mpr fun x hx => List.all_eq_true.mp hi x (by revert x; decide))
    · exact .inl x2
theorem SM_undo0 {M : MM} {A : Nat → NW × Nat} (h : AlM M P o nw) (ha : ActM M 0 A) : f12_undo M 86 = some (0, sI M 86 0 0) := by
  have w := h.1.1
  have w0 : Wl (sI M 86 0 0) := w
  unfold f12_undo
  have e23 : mI (sI M 86 0 0) 86 23 = nI 0 := by
    rw [mI_sI, if_neg (by decide)]
    exact ha.1
  rw [aO_86 w, bM_e, aO_86 w0, e23, if_pos (show nI 0 = 0 from rfl)]
theorem SM_undo {M : MM} {n : Nat} {A : Nat → NW × Nat} (h : AlM M P o nw) (ha : ActM M (n + 1) A) (hA : ActW P (n + 1) A) : ∃ M', f12_undo M 86 = some (1, M') ∧ Sm [86, 92] [] M M' ∧ (∀ j, j ≠ 0 → j ≠ 5 → j ≠ 19 → j ≠ 20 → j ≠ 21 → j ≠ 23 → j ≠ 31 → j ≠ 49 → mI M' 86 j = mI M 86 j) ∧ AlM M' P (A n).2 (A n).1 ∧ ActM M' n A := by
  have w := h.1.1
  have ho := h.1.2.2.1
  obtain ⟨a1, a2, a3⟩ := id ha
  obtain ⟨l1, l2⟩ := a3 n (by omega)
  obtain ⟨wn, wo⟩ := hA n (by omega)
  obtain ⟨b, hb⟩ : ∃ b, b = 44 * n := ⟨_, rfl⟩
  rw [← hb] at l1 l2
  obtain ⟨M1, hM1⟩ : ∃ M1, M1 = sI (sI M 86 0 0) 86 23 (nI n) := ⟨_, rfl⟩
  have s1 : Sm [86] [] M M1 := by rw [hM1, sI_e, sI_e]; exact ((Sm.rfl _ _ M).uI _ (by decide)).uI _ (by decide)
  have f1 : ∀ j, j ≠ 0 → j ≠ 23 → mI M1 86 j = mI M 86 j := fun j h1 h2 => by rw [hM1, mI_sI, if_neg (fun z => h2 z.2), mI_sI, if_neg (fun z => h1 z.2)]
  have e23 : mI M1 86 23 = nI n := by rw [hM1, mI_sI, if_pos ⟨rfl, rfl⟩]
  have w1 := w.sm s1
  have e94 : mI M1 94 = mI M 94 := s1.i 94 (by decide)
  obtain ⟨v, hv⟩ : ∃ v : Int32, v = (if mI M 94 b = 1 then 1 else 0) := ⟨_, rfl⟩
  have v01 : v = 0 ∨ v = 1 := by
    rw [hv]
    split
    · exact .inr rfl
    · exact .inl rfl
  obtain ⟨M2, hM2⟩ : ∃ M2, M2 = sI (sI (sI M1 86 19 v) 86 20 (mI M 94 (b + 1))) 86 21 (mI M 94 (b + 2)) := ⟨_, rfl⟩
  have s2 : Sm [86] [] M M2 := by rw [hM2, sI_e, sI_e, sI_e]; exact ((s1.uI _ (by decide)).uI _ (by decide)).uI _ (by decide)
  have f2 : ∀ j, j ≠ 0 → j ≠ 23 → j ≠ 19 → j ≠ 20 → j ≠ 21 → mI M2 86 j = mI M 86 j := fun j h1 h2 h3 h4 h5 => by rw [hM2, mI_sI, if_neg (fun z => h5 z.2), mI_sI, if_neg (fun z => h4 z.2), mI_sI, if_neg (fun z => h3 z.2), f1 j h1 h2]
  have g19 : mI M2 86 19 = v := by rw [hM2, mI_sI, if_neg (by decide), mI_sI, if_neg (by decide), mI_sI, if_pos ⟨rfl, rfl⟩]
  have g20 : mI M2 86 20 = mI M 94 (b + 1) := by rw [hM2, mI_sI, if_neg (by decide), mI_sI, if_pos ⟨rfl, rfl⟩]
  have g21 : mI M2 86 21 = mI M 94 (b + 2) := by rw [hM2, mI_sI, if_pos ⟨rfl, rfl⟩]
  have g23 : mI M2 86 23 = nI n := by rw [hM2, mI_sI, if_neg (by decide), mI_sI, if_neg (by decide), mI_sI, if_neg (by decide), e23]
  have w2 := w.sm s2
  obtain ⟨M3, d1, d2, d3, d4, d5⟩ := SM_outsAre w2 (show mI M2 86 5 = nI o by rw [f2 5 (by decide) (by decide) (by decide) (by decide) (by decide)]; exact h.1.2.2.2.1.1) ho wo
  have w3 := w2.sm d2
  have e94' : mI M3 94 = mI M 94 := by rw [d2.i 94 (by decide), s2.i 94 (by decide)]
  obtain ⟨M4, k1, k2, k3⟩ := LM_un89 w3 (b := b) (by omega) 40 0 (by omega) FU (FU_big (by omega)) M3 (Sm.rfl _ _ _) (fun k hk => absurd hk (Nat.not_lt_zero _))
  have sA : Sm [86, 92] [] M M4 := ((s2.trans d2).more (by decide) (by decide)).trans (k2.more (by decide) (by decide))
  have i86 : mI M4 86 = mI M3 86 := k2.i 86 (by decide)
  have fA : ∀ j, j ≠ 0 → j ≠ 5 → j ≠ 19 → j ≠ 20 → j ≠ 21 → j ≠ 23 → j ≠ 31 → j ≠ 49 → mI M4 86 j = mI M 86 j := fun j h0 h5 h19 h20 h21 h23 h31 h49 => by rw [i86, d3 j h5 h31 h49, f2 j h0 h23 h19 h20 h21]
  have hh : HereM M4 (A n).1 := by
    cases c : (A n).1 with
    | none =>
      rw [c] at l2
      show mI M4 86 19 = 0
      rw [i86, d3 19 (by decide) (by decide) (by decide), g19, hv, if_neg (by
        have : mI M 94 b = 0 := l2
        rw [this]
        decide)]
    | some q =>
      rw [c] at l2
      have h40 := wn.le q c
      refine ⟨?_, ?_, ?_, fun i hi => ?_⟩
      · rw [i86, d3 19 (by decide) (by decide) (by decide), g19, hv, if_pos l2.1]
      · rw [i86, d3 20 (by decide) (by decide) (by decide), g20]
        exact l2.2.1
      · rw [i86, d3 21 (by decide) (by decide) (by decide), g21]
        exact l2.2.2.1
      · have hi' : i < q.2.1 := hi
        rw [k3 i (by omega), e94']
        exact l2.2.2.2 i hi
  refine ⟨M4, ?_, sA, fA, h.outs sA (by decide) (by decide) (by rw [i86]; exact d4) wo hh wn (fA 47 (by decide) (by decide) (by decide) (by decide) (by decide) (by decide) (by decide) (by decide)) (fA 48 (by decide) (by decide) (by decide) (by decide) (by decide) (by decide) (by decide) (by decide)) ?_, ?_⟩
  · have w0 : Wl (sI M 86 0 0) := w
    have b48 : f12_undo_b48 M1 86 (nI b) v 86 = some (1, M4) := by
      have wa : Wl (sI M1 86 19 v) := w1
      have wb : Wl (sI (sI M1 86 19 v) 86 20 (mI M 94 (b + 1))) := w1
      have ea : mI (sI M1 86 19 v) 94 = mI M 94 := by rw [sI_e, mI_uI, if_neg (by decide), e94]
      have eb : mI (sI (sI M1 86 19 v) 86 20 (mI M 94 (b + 1))) 94 = mI M 94 := by rw [sI_e, mI_uI, if_neg (by decide), ea]
      have ec : mI M2 94 = mI M 94 := s2.i 94 (by decide)
      unfold f12_undo_b48
      rw [aO_86 w1, gd_e v01, bM_e, aO_86 wa, r_86_22 wa, nI_1, aA_94 wa (by omega), aO_86 wa, bM_e, nI_clamp (by omega), ea, aO_86 wb, r_86_22 wb, lit_2, nI_add, aA_94 wb (by omega), aO_86 wb, bM_e, nI_clamp (by omega), eb, ← hM2, aO_86 w2, r_86_22 w2, lit_3, nI_add, aA_94 w2 (by omega), aO_86 w2, nI_clamp (by omega), ec, l1, d1, cV_some]
      exact k1
    unfold f12_undo
    rw [aO_86 w, bM_e, aO_86 w0, show mI (sI M 86 0 0) 86 23 = nI (n + 1) by rw [mI_sI, if_neg (by decide)]; exact a1, if_neg (by rw [c_eq0 (by omega)]; omega), aO_86 w0, aO_86 w0, nI_sub1 (by omega), show n + 1 - 1 = n from rfl, bM_e, ← hM1, aO_86 w1, e23, show (44 : Int32) = nI 44 from rfl, nI_mulN, ← hb, bW_e, aO_86 w1, r_86_22 w1, aA_94 w1 (by omega), nI_clamp (by omega), e94]
    by_cases c : mI M 94 b = 1
    · rw [if_pos c]
      rw [hv, if_pos c] at b48
      exact b48
    · rw [if_neg c]
      rw [hv, if_neg c] at b48
      exact b48
  · rcases d5 with ⟨x1, x2, x3⟩ | ⟨x1, x2⟩
    · exact .inl ⟨x1, by rw [i86, x2, f2 31 (by decide) (by decide) (by decide) (by decide) (by decide)], by rw [i86, x3, f2 49 (by decide) (by decide) (by decide) (by decide) (by decide)]⟩
    · exact .inr ⟨by rw [i86, x1], by rw [i86, x2]⟩
  · refine ⟨by rw [i86, d3 23 (by decide) (by decide) (by decide), g23], by omega, fun j hj => ?_⟩
    rw [sA.i 94 (by decide)]
    exact a3 j (by omega)
theorem SM_out {M : MM} {n : Nat} {A : Nat → NW × Nat} (h : AlM M P o nw) (ha : ActM M n A) (hA : ActW P n A) (x y : Int32) : ∃ M' r, f12_out M 86 x y = some (r, M') ∧ ((ibx (pR P) x = false → r = 0 ∧ M' = sI M 86 0 0) ∧ ∀ k, k < pR P → x = nI k → (bI (o.testBit k) = y → r = 0 ∧ M' = sI M 86 0 0) ∧ (bI (o.testBit k) ≠ y → r = 1 ∧ Sm [86, 94] [] M M' ∧ (∀ j, j ≠ 0 → j ≠ 5 → j ≠ 23 → j ≠ 31 → j ≠ 49 → mI M' 86 j = mI M 86 j) ∧ AlM M' P (o ^^^ 2 ^ k) nw ∧ ActM M' (kpN n) (kpA n A (nw, o)))) := by
  have w := h.1.1
  have hp := h.1.2.1
  have r14 := hp.2.2.1
  have ho := h.1.2.2.1
  have w0 : Wl (sI M 86 0 0) := w
  have h0 := h.1.th 0
  unfold f12_out
  rw [aO_86 w, bM_e, aO_86 w0, SM_isRule w0 h0.2.2.2.1 hp, cI_some]
  by_cases c : ibx (pR P) x = true
  · obtain ⟨k, hk, rfl⟩ := ibx_out c (by omega)
    have e5 : mI (sI M 86 0 0) 86 5 = nI o := h0.2.2.2.1.1
    rw [c, bI_t, if_neg (by decide), aO_86 w0, e5, SM_isOf (by omega) (by omega), cI_some]
    by_cases c2 : bI (o.testBit k) = y
    · rw [if_pos c2]
      refine ⟨_, 0, rfl, (fun z => by cases z), fun k' hk' e => ?_⟩
      rw [nI_eq (by omega) (by omega)] at e
      rw [← e]
      exact ⟨fun _ => ⟨rfl, rfl⟩, fun z => absurd c2 z⟩
    · have ha0 : ActM (sI M 86 0 0) n A := by
        obtain ⟨x1, x2, x3⟩ := ha
        exact ⟨by rw [mI_sI, if_neg (by decide)]; exact x1, x2, by rw [sI_e, mI_uI, if_neg (by decide)]; exact x3⟩
      obtain ⟨M1, b1, b2, b3, b4⟩ := SM_keep (o := o) w0 h0.2.2.2.2.1 h0.2.2.2.2.2.1 e5 ha0 hA
      have w1 := w0.sm b2
      have e12 : mI M1 86 5 = nI o := by rw [b3 5 (by decide)]; exact e5
      have xo : o ^^^ 2 ^ k < 2 ^ 14 := Nat.xor_lt_two_pow ho (Nat.pow_lt_pow_right (by omega) (by omega))
      obtain ⟨M2, d1, d2, d3, d4, d5⟩ := SM_outsAre w1 e12 ho xo
      have sA : Sm [86, 94] [] M M2 := ((th_sm.more (by decide) (by decide)).trans b2).trans (d2.more (by decide) (by decide))
      have fA : ∀ j, j ≠ 0 → j ≠ 5 → j ≠ 23 → j ≠ 31 → j ≠ 49 → mI M2 86 j = mI M 86 j := fun j h1 h2 h3 h4 h5 => by rw [d3 j h2 h4 h5, b3 j h3, th_f h1]
      rw [if_neg c2, aO_86 w0, b1, cV_some, aO_86 w1, aO_86 w1, e12, shl_nI (by omega), nI_xor, d1, cV_some]
      refine ⟨M2, 1, rfl, (fun z => by cases z), fun k' hk' e => ?_⟩
      rw [nI_eq (by omega) (by omega)] at e
      rw [← e]
      refine ⟨fun z => absurd z c2, fun _ => ⟨rfl, sA, fA, h.outs sA (by decide) (by decide) d4 xo (h.1.2.2.2.2.1.sm sA (fun j h1 h2 => fA j (by omega) (by omega) (by omega) (by omega) (by omega)) (by decide)) h.1.2.2.2.2.2.1 (fA 47 (by decide) (by decide) (by decide) (by decide) (by decide)) (fA 48 (by decide) (by decide) (by decide) (by decide) (by decide)) ?_, ?_⟩⟩
      · rcases d5 with ⟨x1, x2, x3⟩ | z
        · exact .inl ⟨x1, by rw [x2, b3 31 (by decide), th_f (by decide)], by rw [x3, b3 49 (by decide), th_f (by decide)]⟩
        · exact .inr z
      · obtain ⟨x1, x2, x3⟩ := b4
        exact ⟨by rw [d3 23 (by decide) (by decide) (by decide)]; exact x1, x2, by rw [d2.i 94 (by decide)]; exact x3⟩
  · rw [Bool.not_eq_true] at c
    rw [c, bI_f, if_pos rfl]
    refine ⟨_, 0, rfl, fun _ => ⟨rfl, rfl⟩, fun k hk e => ?_⟩
    rw [e, ibx_nI (by omega) (by omega), decide_eq_true hk] at c
    cases c
end UNDO
