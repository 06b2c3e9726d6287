/-! MACHINES: moves read, at the class -/
section MOVES
variable {P : PG} {o : Nat} {E R : Nat → Nat}
/-- the class's net, laid -/
def NtC (M : MM) (P : PG) (o : Nat) (E R : Nat → Nat) : Prop := Wl M ∧ mJ M 34 = lR E ∧ (∃ R', mJ M 36 = lR R' ∧ ∀ x, x < 15 → R' x = R x) ∧ Std P o (gTG P) E R
theorem NtC.sm {M M' : MM} (h : NtC M P o E R) {Is Js : List Nat} (s : Sm Is Js M M') (hj : avd [34, 36] Js = true) : NtC M' P o E R := ⟨h.1.sm s, by rw [s.j 34 (avd_n hj (by decide))]; exact h.2.1, by rw [s.j 36 (avd_n hj (by decide))]; exact h.2.2.1, h.2.2.2⟩
theorem L5_rm54 {M : MM} (h : NtC M P o E R) (hp : WP P) {x g : Nat} (hx : x < 15) (hg : g < pG P) (K40 : MM → Nat → Nat → Int32 → Int32 → Option MM) : ∀ (d j : Nat), j + d = 15 → ∀ f, d < f → LP7 (f5_readMoves_b54_body K40) f M 61 32 (nI x) (nI g) (nI (bsN (fun y => mC E x g y) j)) (nI j) = K40 (uI M 63 (upx (mI M 63) (6 * x + g) (nI (bsN (fun y => mC E x g y) 15)))) 61 32 (nI x) (nI (g + 1))
  | 0, j, hj, f + 1, _ => by
    have w := h.1
    have g6 := hp.2.1
    have e : j = 15 := by omega
    rw [e, LP7_s]
    generalize LP7 (f5_readMoves_b54_body K40) f = K
    unfold f5_readMoves_b54_body
    rw [lit_15, if_pos (nI_le (by omega) (by omega)), aO_61 w, r_61_0 w, aO_62 w, lit_6, nI_mulN, nI_add, Nat.mul_comm x 6, s_62 w, cV_some, pI_in (by omega) (by omega), nI_1]
  | d + 1, j, hj, f + 1, hf => by
    have w := h.1
    have g6 := hp.2.1
    have ih := L5_rm54 h hp hx hg K40 d (j + 1) (by omega) f (by omega)
    have b := h.2.2.2.1 _ (ix15_lt hx (show g < 6 by omega) (show j < 15 by omega))
    rw [← ih, LP7_s]
    generalize LP7 (f5_readMoves_b54_body K40) f = K
    unfold f5_readMoves_b54_body f5_readMoves_b85
    rw [lit_15, if_neg (nI_ge (by omega) (by omega)), aO_32 w, S1_edge (a := 32) w (.inl rfl) hx (by omega) (by omega), cJ_some, show mJ M (32 + 2) = lR E from h.2.1, litF]
    show (if lN FARN ≤ lN (E (ix 15 x g j)) then _ else _) = _
    simp only [lN_leN FARN_lt (le63 b)]
    have e : bsN (fun y => mC E x g y) (j + 1) = bsN (fun y => mC E x g y) j ||| (if mC E x g j = true then 2 ^ j else 0) := rfl
    rw [e]
    by_cases c : E (ix 15 x g j) < FARN
    · rw [if_neg (by omega), if_pos (show mC E x g j = true from decide_eq_true c), shl_nI (by omega), nI_or, bW_e, nI_1]
    · rw [if_pos (by omega), if_neg (show ¬ mC E x g j = true from fun z => c (of_decide_eq_true z)), Nat.or_zero, nI_1]
theorem L5_rm40 {M0 : MM} (h0 : NtC M0 P o E R) (hp : WP P) (h14 : mI M0 61 14 = nI (pG P)) {x : Nat} (hx : x < 15) : ∀ (d g : Nat), g + d = pG P → ∀ f, d < f → ∀ M, Sm [63] [] M0 M → (∀ g', g' < g → mI M 63 (6 * x + g') = nI (bsN (fun y => mC E x g' y) 15)) → (∀ i, i < 6 * x → mI M 63 i = mI M0 63 i) →
    ∃ M', (∀ K7, LP5 (f5_readMoves_b40_body K7) f M 61 32 (nI x) (nI g) = K7 M' 61 32 (nI (x + 1))) ∧ Sm [63] [] M0 M' ∧ (∀ g', g' < pG P → mI M' 63 (6 * x + g') = nI (bsN (fun y => mC E x g' y) 15)) ∧ ∀ i, i < 6 * x → mI M' 63 i = mI M0 63 i
  | 0, g, hg, f + 1, _, M, s, h, hu => by
    have w := h0.1.sm s
    have g6 := hp.2.1
    have e : g = pG P := by omega
    rw [e] at h ⊢
    refine ⟨M, fun K7 => ?_, s, h, hu⟩
    rw [LP5_s]
    generalize LP5 (f5_readMoves_b40_body K7) f = K
    unfold f5_readMoves_b40_body
    rw [aO_61 w, s.i 61 (by decide), h14, if_pos (nI_le (Nat.le_refl _) (by omega)), nI_1]
  | d + 1, g, hg, f + 1, hf, M, s, h, hu => by
    have w := h0.1.sm s
    have g6 := hp.2.1
    obtain ⟨M', k1, k2⟩ := L5_rm40 h0 hp h14 hx d (g + 1) (by omega) f (by omega) (uI M 63 (upx (mI M 63) (6 * x + g) (nI (bsN (fun y => mC E x g y) 15)))) (s.uI _ (by decide)) (fun g' hg' => by
      rw [mI_uI, if_pos rfl, upx_e]
      by_cases e : g' = g
      · rw [if_pos (by rw [e]), e]
      · rw [if_neg (by omega)]
        exact h g' (by omega)) (fun i hi => by
      rw [mI_uI, if_pos rfl, upx_e, if_neg (by omega)]
      exact hu i hi)
    refine ⟨M', fun K7 => ?_, k2⟩
    have q := L5_rm54 (h0.sm s (by decide)) hp hx (show g < pG P by omega) (LP5 (f5_readMoves_b40_body K7) f) 15 0 (by omega) FU (FU_big (by omega))
    rw [← k1 K7, LP5_s]
    refine Eq.trans ?_ q
    generalize LP5 (f5_readMoves_b40_body K7) f = K
    unfold f5_readMoves_b40_body
    rw [aO_61 w, s.i 61 (by decide), h14, if_neg (nI_ge (by omega) (by omega))]
    rfl
theorem L5_rm7 {M0 : MM} (h0 : NtC M0 P o E R) (hp : WP P) (h14 : mI M0 61 14 = nI (pG P)) : ∀ (d x : Nat), x + d = 15 → ∀ f, d < f → ∀ M, Sm [61, 63] [] M0 M → (∀ i, i ≠ 13 → mI M 61 i = mI M0 61 i) → mI M 61 13 = nI (bsN (endS (gTG P)) x) → (∀ x' g, x' < x → g < pG P → mI M 63 (6 * x' + g) = nI (bsN (fun y => mC E x' g y) 15)) →
    ∃ M', LP4 f5_readMoves_b7_body f M 61 32 (nI x) = some M' ∧ Sm [61, 63] [] M0 M' ∧ (∀ i, i ≠ 13 → mI M' 61 i = mI M0 61 i) ∧ mI M' 61 13 = nI (bsN (endS (gTG P)) 15) ∧ MV M' P E
  | 0, x, hx, f + 1, _, M, s, fl, h13, h => by
    have e : x = 15 := by omega
    rw [e] at h h13 ⊢
    refine ⟨M, ?_, s, fl, h13, h⟩
    rw [LP4_s]
    generalize LP4 f5_readMoves_b7_body f = K
    unfold f5_readMoves_b7_body
    rw [lit_15, if_pos (nI_le (by omega) (by omega))]
  | d + 1, x, hx, f + 1, hf, M, s, fl, h13, h => by
    have hN := h0.sm s (by decide)
    have w := hN.1
    have g6 := hp.2.1
    obtain ⟨R', r1, r2⟩ := hN.2.2.1
    have rx : R' x = z15 (gTG P) x := (r2 x (by omega)).trans (hN.2.2.2.2.2.2 x (by omega))
    obtain ⟨M1, hM1⟩ : ∃ M1, M1 = sI M 61 13 (nI (bsN (endS (gTG P)) (x + 1))) := ⟨_, rfl⟩
    have s1 : Sm [61, 63] [] M0 M1 := by rw [hM1, sI_e]; exact s.uI _ (by decide)
    have f1 : ∀ i, i ≠ 13 → mI M1 61 i = mI M0 61 i := fun i hi => by
      rw [hM1, mI_sI, if_neg (fun z => hi z.2)]
      exact fl i hi
    have e63 : mI M1 63 = mI M 63 := by rw [hM1, sI_e, mI_uI, if_neg (by decide)]
    obtain ⟨M2, k1, k2, k3, k4⟩ := L5_rm40 (h0.sm s1 (by decide)) hp ((f1 14 (by decide)).trans h14) (show x < 15 by omega) (pG P) 0 (by omega) FU (FU_big (by omega)) M1 (Sm.rfl _ _ _) (fun g' hg' => absurd hg' (Nat.not_lt_zero _)) (fun _ _ => rfl)
    obtain ⟨M', z1, z2⟩ := L5_rm7 h0 hp h14 d (x + 1) (by omega) f (by omega) M2 (s1.trans (k2.more (by decide) (by decide))) (fun i hi => by rw [k2.i 61 (by decide)]; exact f1 i hi) (by rw [k2.i 61 (by decide), hM1, mI_sI, if_pos ⟨rfl, rfl⟩]) (fun x' g hx' hg => by
      by_cases e : x' = x
      · rw [e]
        exact k3 g hg
      · rw [k4 _ (by omega), e63]
        exact h x' g (by omega) hg)
    refine ⟨M', ?_, z2⟩
    rw [← z1, ← k1 (LP4 f5_readMoves_b7_body f), LP4_s]
    generalize LP4 f5_readMoves_b7_body f = K
    unfold f5_readMoves_b7_body f5_readMoves_b38
    have e : bsN (endS (gTG P)) (x + 1) = bsN (endS (gTG P)) x ||| (if endS (gTG P) x = true then 2 ^ x else 0) := rfl
    have lf := S1_left (k := 0) (x := x) w (.inl rfl) (show 0 * 15 + x < nrw 32 by unfold nrw; rw [if_pos rfl]; omega)
    have lf' : f1_left M 32 (0 : Int32) (nI x) = some (lN (R' x), M) := by
      refine lf.trans ?_
      rw [show mJ M (32 + 4) = lR R' from r1, Nat.zero_mul, Nat.zero_add]
      rfl
    rw [lit_15, if_neg (nI_ge (by omega) (by omega)), aO_32 w, lf', cJ_some, litF, rx]
    unfold z15
    by_cases c : endS (gTG P) x = true
    · rw [if_pos c, if_neg (show ¬ lN FARN ≤ lN 0 by rw [lN_leN FARN_lt (by omega)]; unfold FARN; omega), aO_61 w, aO_61 w, h13, shl_nI (by omega), nI_or, bM_e]
      rw [e, if_pos c] at hM1
      rw [← hM1]
      rfl
    · rw [if_neg c, if_pos (show lN FARN ≤ lN FARN by rw [lN_leN FARN_lt FARN_lt]; exact Nat.le_refl _)]
      have : M1 = M := by
        rw [hM1, e, if_neg c, Nat.or_zero, ← h13]
        rw [sI_e]
        refine uI_eq ?_
        funext i
        rw [upx_e]
        split
        · next z => rw [z]
        · rfl
      rw [this]
      rfl
end MOVES
