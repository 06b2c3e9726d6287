/-! feed and end -/
section FEED
variable {L : Nat} {B : Nat → Nat}
def byt (v : Int32) (s : Nat) : Nat := (ushr v (nI s) &&& (255 : Int32)).toBitVec.toNat
theorem byt_e (v : Int32) (s : Nat) : ushr v (nI s) &&& (255 : Int32) = nI (byt v s) ∧ byt v s < 256 := by
  unfold byt
  obtain ⟨y, hy⟩ : ∃ y, y = ushr v (nI s) &&& (255 : Int32) := ⟨_, rfl⟩
  have h1 : y.toBitVec.toNat < 256 := by
    have e1 : y.toBitVec = (ushr v (nI s)).toBitVec &&& (255 : Int32).toBitVec := by rw [hy]; rfl
    have e2 : y.toBitVec.toNat = (ushr v (nI s)).toBitVec.toNat &&& 255 := by rw [e1, BitVec.toNat_and]; rfl
    rw [e2]
    exact Nat.lt_of_le_of_lt Nat.and_le_right (by decide)
  rw [← hy]
  refine ⟨?_, h1⟩
  apply Int32.toBitVec_inj.mp
  apply BitVec.eq_of_toNat_eq
  show _ = (Int32.ofNat _).toBitVec.toNat
  rw [Int32.toBitVec_ofNat', BitVec.toNat_ofNat]
  exact (Nat.mod_eq_of_lt (by omega)).symm
theorem byt_m (v : Int32) {s : Nat} (hs : s ≤ 24) : (v >>> (nI s &&& 31)) &&& (255 : Int32) = nI (byt v s) := by
  rw [← (byt_e v s).1]
  apply b_ext
  intro i hi
  rw [b_and, b_and, b_255, b_sshr s (by omega) v hi]
  have e : bt (ushr v (nI s)) i = bt v (s + i) := b_ushr s (by omega) v i
  rw [e]
  by_cases c : i < 8
  · rw [if_pos (by omega)]
  · rw [decide_eq_false c, Bool.and_false, Bool.and_false]
theorem TpC.add {M : MM} (h : TpC M L B) {b : Nat} (hb : b < 256) (hL : L < 800) : TpC (sI (uI M 3 (upx (mI M 3) L (nI b))) 2 2 (nI (L + 1))) (L + 1) (upx B L b) ∧ Sm [2, 3] [] M (sI (uI M 3 (upx (mI M 3) L (nI b))) 2 2 (nI (L + 1))) := by
  obtain ⟨h1, h2, h3⟩ := h
  refine ⟨⟨?_, hL, fun i hi => ?_⟩, ((Sm.rfl _ _ M).uI _ (by decide)).uI _ (by decide)⟩
  · rw [mI_sI, if_pos ⟨rfl, rfl⟩]
  · rw [sI_e, mI_uI, if_neg (by decide), mI_uI, if_pos rfl, upx_e, upx_e]
    by_cases c : i = L
    · rw [if_pos c, if_pos c]
      exact ⟨rfl, hb⟩
    · rw [if_neg c, if_neg c]
      exact h3 i (by omega)
theorem L9_byte {M : MM} (w : Wl M) (h : TpC M L B) (hL : L < 800) (v : Int32) {s : Nat} (hs : s ≤ 24) (f : Nat) : LP4 f9_addFour_b3_body (f + 1) M 2 v (nI s) = LP4 f9_addFour_b3_body f (sI (uI M 3 (upx (mI M 3) L (nI (byt v s)))) 2 2 (nI (L + 1))) 2 v (nI s + -8) := by
  have w1 : Wl (uI M 3 (upx (mI M 3) L (nI (byt v s)))) := w
  have e2 : mI (uI M 3 (upx (mI M 3) L (nI (byt v s)))) 2 2 = nI L := by rw [mI_uI, if_neg (by decide)]; exact h.1
  rw [LP4_s]
  generalize LP4 f9_addFour_b3_body f = K
  unfold f9_addFour_b3_body f9_addFour_b52
  rw [if_neg (nI_pos (by omega)), aO_2 w, h.1, if_neg (nI_pos (by omega)), aO_2 w, aO_2 w, r_2_0 w, aL_e (by rw [k_3 w]), k_3 w, if_neg (show ¬ nI (0, 800).2 ≤ nI L from nI_ge (by show L < 800; omega) (by omega)), aO_2 w, aO_2 w, aA_3 w hL, nI_clamp (by omega), (byt_e v s).1, bM_e, sI_e, aO_2 w1, aO_2 w1, e2, bM_e, nI_1]
def fd4 (B : Nat → Nat) (L : Nat) (v : Int32) : Nat → Nat := upx (upx (upx (upx B L (byt v 24)) (L + 1) (byt v 16)) (L + 2) (byt v 8)) (L + 3) (byt v 0)
theorem S9_addFour {M : MM} (w : Wl M) (h : TpC M L B) (hL : L + 4 ≤ 800) (v : Int32) : ∃ M', f9_addFour M 2 v = some M' ∧ Sm [2, 3] [] M M' ∧ TpC M' (L + 4) (fd4 B L v) ∧ Wl M' := by
  obtain ⟨n, hn⟩ : ∃ n, FU = n + 1 + 1 + 1 + 1 + 1 := ⟨FU - 5, by have : (8 : Nat) < FU := FU_big (by omega); omega⟩
  obtain ⟨a1, a2⟩ := h.add (byt_e v 24).2 (show L < 800 by omega)
  have w1 := w.sm a2
  have e1 := L9_byte w h (show L < 800 by omega) v (show 24 ≤ 24 by omega) (n + 1 + 1 + 1 + 1)
  obtain ⟨M1, hM1⟩ : ∃ M1, M1 = sI (uI M 3 (upx (mI M 3) L (nI (byt v 24)))) 2 2 (nI (L + 1)) := ⟨_, rfl⟩
  rw [← hM1] at a1 a2 w1 e1
  obtain ⟨b1, b2⟩ := a1.add (byt_e v 16).2 (show L + 1 < 800 by omega)
  have w2 := w1.sm b2
  have e2 := L9_byte w1 a1 (show L + 1 < 800 by omega) v (show 16 ≤ 24 by omega) (n + 1 + 1 + 1)
  obtain ⟨M2, hM2⟩ : ∃ M2, M2 = sI (uI M1 3 (upx (mI M1 3) (L + 1) (nI (byt v 16)))) 2 2 (nI (L + 1 + 1)) := ⟨_, rfl⟩
  rw [← hM2] at b1 b2 w2 e2
  obtain ⟨c1, c2⟩ := b1.add (byt_e v 8).2 (show L + 1 + 1 < 800 by omega)
  have w3 := w2.sm c2
  have e3 := L9_byte w2 b1 (show L + 1 + 1 < 800 by omega) v (show 8 ≤ 24 by omega) (n + 1 + 1)
  obtain ⟨M3, hM3⟩ : ∃ M3, M3 = sI (uI M2 3 (upx (mI M2 3) (L + 1 + 1) (nI (byt v 8)))) 2 2 (nI (L + 1 + 1 + 1)) := ⟨_, rfl⟩
  rw [← hM3] at c1 c2 w3 e3
  obtain ⟨d1, d2⟩ := c1.add (byt_e v 0).2 (show L + 1 + 1 + 1 < 800 by omega)
  have w4 := w3.sm d2
  have e4 := L9_byte w3 c1 (show L + 1 + 1 + 1 < 800 by omega) v (show 0 ≤ 24 by omega) (n + 1)
  obtain ⟨M4, hM4⟩ : ∃ M4, M4 = sI (uI M3 3 (upx (mI M3 3) (L + 1 + 1 + 1) (nI (byt v 0)))) 2 2 (nI (L + 1 + 1 + 1 + 1)) := ⟨_, rfl⟩
  rw [← hM4] at d1 d2 w4 e4
  refine ⟨M4, ?_, ((a2.trans b2).trans c2).trans d2, d1, w4⟩
  unfold f9_addFour f9_addFour_b3
  rw [hn, show (24 : Int32) = nI 24 from rfl, e1, show nI 24 + -8 = nI 16 by decide, e2, show nI 16 + -8 = nI 8 by decide, e3, show nI 8 + -8 = nI 0 by decide, e4, LP4_s]
  generalize LP4 f9_addFour_b3_body n = K
  unfold f9_addFour_b3_body
  rw [if_pos (show nI 0 + -8 < 0 by decide)]
/-- the class is fed -/
def fd20 (B : Nat → Nat) (L : Nat) (v1 v2 v3 v4 v5 : Int32) : Nat → Nat := fd4 (fd4 (fd4 (fd4 (fd4 B L v1) (L + 4) v2) (L + 4 + 4) v3) (L + 4 + 4 + 4) v4) (L + 4 + 4 + 4 + 4) v5
theorem S11_feed {M : MM} (w : Wl M) (h : TpC M L B) (v1 v2 v3 v4 v5 : Int32) : (780 < L ∧ f11_feed M 1 v1 v2 v3 v4 v5 = some (-1, M)) ∨ (L ≤ 780 ∧ ∃ M', f11_feed M 1 v1 v2 v3 v4 v5 = some (nI (L + 4 + 4 + 4 + 4 + 4), M') ∧ Sm [2, 3] [] M M' ∧ TpC M' (L + 4 + 4 + 4 + 4 + 4) (fd20 B L v1 v2 v3 v4 v5)) := by
  have := h.2.1
  unfold f11_feed
  rw [aO_1 w, r_1_0 w, aO_2 w, h.1, show (20 : Int32) = nI 20 from rfl, nI_add, show (800 : Int32) = nI 800 from rfl]
  by_cases c : 780 < L
  · rw [if_neg (nI_ge (by omega) (by omega))]
    exact .inl ⟨c, rfl⟩
  · rw [if_pos (nI_le (by omega) (by omega))]
    obtain ⟨M1, a1, a2, a3, a4⟩ := S9_addFour w h (by omega) v1
    obtain ⟨M2, b1, b2, b3, b4⟩ := S9_addFour a4 a3 (by omega) v2
    obtain ⟨M3, c1, c2, c3, c4⟩ := S9_addFour b4 b3 (by omega) v3
    obtain ⟨M4, d1, d2, d3, d4⟩ := S9_addFour c4 c3 (by omega) v4
    obtain ⟨M5, e1, e2, e3, e4⟩ := S9_addFour d4 d3 (by omega) v5
    refine .inr ⟨by omega, M5, ?_, (((a2.trans b2).trans c2).trans d2).trans e2, e3⟩
    rw [aO_1 w, aO_2 w, a1, cV_some, aO_1 a4, r_1_0 a4, aO_2 a4, b1, cV_some, aO_1 b4, r_1_0 b4, aO_2 b4, c1, cV_some, aO_1 c4, r_1_0 c4, aO_2 c4, d1, cV_some, aO_1 d4, r_1_0 d4, aO_2 d4, e1, cV_some, aO_1 e4, r_1_0 e4, aO_2 e4, e3.1]
theorem S11_end {M : MM} (w : Wl M) (h : TpC M L B) (v : Int32) : (¬ (0 ≤ v ∧ v ≤ nI L) ∧ f11_end M 1 v = some (-1, M)) ∨ (∃ n, v = nI n ∧ n ≤ L ∧ f11_end M 1 v = some (nI n, sI M 2 2 (nI n)) ∧ Sm [2] [] M (sI M 2 2 (nI n)) ∧ TpC (sI M 2 2 (nI n)) n B) := by
  have L8 := h.2.1
  unfold f11_end
  by_cases c0 : v < 0
  · rw [if_pos c0]
    exact .inl ⟨fun q => Int32.not_le.mpr c0 q.1, rfl⟩
  · rw [if_neg c0, aO_1 w, r_1_0 w, aO_2 w, h.1]
    have c0' : 0 ≤ v := Int32.not_lt.mp c0
    by_cases c1 : v ≤ nI L
    · obtain ⟨n, hn, e⟩ : ∃ n, n < 2 ^ 31 ∧ v = nI n := by
        obtain ⟨n, h1, h2⟩ := nI_of c0
        exact ⟨n, h1, h2⟩
      have nL : n ≤ L := by
        rw [e, c_le hn (by omega)] at c1
        exact c1
      refine .inr ⟨n, e, nL, ?_, by rw [sI_e]; exact (Sm.rfl _ _ M).uI _ (by decide), ⟨?_, by omega, fun i hi => ?_⟩⟩
      · rw [if_pos c1, aO_1 w, aO_2 w]
        unfold f9_cut
        rw [aO_2 w, bM_e, cV_some, e]
      · rw [mI_sI, if_pos ⟨rfl, rfl⟩]
      · rw [sI_e, mI_uI, if_neg (by decide)]
        exact h.2.2 i (by omega)
    · rw [if_neg c1]
      exact .inl ⟨fun q => c1 q.2, rfl⟩
/-! the reference -/
theorem TaM.add {M : MM} (h : TaM M L B) {b : Nat} (hb : b < 256) (hL : L < 800) : TaM (sI (uI M 91 (upx (mI M 91) L (nI b))) 86 7 (nI (L + 1))) (L + 1) (upx B L b) ∧ Sm [86, 91] [] M (sI (uI M 91 (upx (mI M 91) L (nI b))) 86 7 (nI (L + 1))) ∧ ∀ j, j ≠ 7 → mI (sI (uI M 91 (upx (mI M 91) L (nI b))) 86 7 (nI (L + 1))) 86 j = mI M 86 j := by
  obtain ⟨h1, h2, h3⟩ := h
  refine ⟨⟨?_, hL, fun i hi => ?_⟩, ((Sm.rfl _ _ M).uI _ (by decide)).uI _ (by decide), fun j hj => ?_⟩
  · rw [mI_sI, if_pos ⟨rfl, rfl⟩]
  · rw [sI_e, mI_uI, if_neg (by decide), mI_uI, if_pos rfl, upx_e, upx_e]
    by_cases c : i = L
    · rw [if_pos c, if_pos c]
      exact ⟨rfl, hb⟩
    · rw [if_neg c, if_neg c]
      exact h3 i (by omega)
  · rw [mI_sI, if_neg (fun z => hj z.2), mI_uI, if_neg (by decide)]
theorem LM_byte {M : MM} (w : Wl M) (h : TaM M L B) (hL : L < 800) (v : Int32) {s : Nat} (hs : s ≤ 24) (f : Nat) : LP4 f12_four_b3_body (f + 1) M 86 v (nI s) = LP4 f12_four_b3_body f (sI (uI M 91 (upx (mI M 91) L (nI (byt v s)))) 86 7 (nI (L + 1))) 86 v (nI s + -8) := by
  have w1 : Wl (uI M 91 (upx (mI M 91) L (nI (byt v s)))) := w
  have e2 : mI (uI M 91 (upx (mI M 91) L (nI (byt v s)))) 86 7 = nI L := by rw [mI_uI, if_neg (by decide)]; exact h.1
  rw [LP4_s]
  generalize LP4 f12_four_b3_body f = K
  unfold f12_four_b3_body
  rw [if_neg (nI_pos (by omega)), aO_86 w, aO_86 w, r_86_6 w, h.1, aA_91 w hL, nI_clamp (by omega), byt_m v hs, bM_e, sI_e, aO_86 w1, aO_86 w1, e2, bM_e, nI_1]
theorem SM_four {M : MM} (w : Wl M) (h : TaM M L B) (hL : L + 4 ≤ 800) (v : Int32) : ∃ M', f12_four M 86 v = some M' ∧ Sm [86, 91] [] M M' ∧ (∀ j, j ≠ 7 → mI M' 86 j = mI M 86 j) ∧ TaM M' (L + 4) (fd4 B L v) ∧ Wl M' := by
  obtain ⟨n, hn⟩ : ∃ n, FU = n + 1 + 1 + 1 + 1 + 1 := ⟨FU - 5, by have : (8 : Nat) < FU := FU_big (by omega); omega⟩
  obtain ⟨a1, a2, a3⟩ := h.add (byt_e v 24).2 (show L < 800 by omega)
  have w1 := w.sm a2
  have e1 := LM_byte w h (show L < 800 by omega) v (show 24 ≤ 24 by omega) (n + 1 + 1 + 1 + 1)
  obtain ⟨M1, hM1⟩ : ∃ M1, M1 = sI (uI M 91 (upx (mI M 91) L (nI (byt v 24)))) 86 7 (nI (L + 1)) := ⟨_, rfl⟩
  rw [← hM1] at a1 a2 a3 w1 e1
  obtain ⟨b1, b2, b3⟩ := a1.add (byt_e v 16).2 (show L + 1 < 800 by omega)
  have w2 := w1.sm b2
  have e2 := LM_byte w1 a1 (show L + 1 < 800 by omega) v (show 16 ≤ 24 by omega) (n + 1 + 1 + 1)
  obtain ⟨M2, hM2⟩ : ∃ M2, M2 = sI (uI M1 91 (upx (mI M1 91) (L + 1) (nI (byt v 16)))) 86 7 (nI (L + 1 + 1)) := ⟨_, rfl⟩
  rw [← hM2] at b1 b2 b3 w2 e2
  obtain ⟨c1, c2, c3⟩ := b1.add (byt_e v 8).2 (show L + 1 + 1 < 800 by omega)
  have w3 := w2.sm c2
  have e3 := LM_byte w2 b1 (show L + 1 + 1 < 800 by omega) v (show 8 ≤ 24 by omega) (n + 1 + 1)
  obtain ⟨M3, hM3⟩ : ∃ M3, M3 = sI (uI M2 91 (upx (mI M2 91) (L + 1 + 1) (nI (byt v 8)))) 86 7 (nI (L + 1 + 1 + 1)) := ⟨_, rfl⟩
  rw [← hM3] at c1 c2 c3 w3 e3
  obtain ⟨d1, d2, d3⟩ := c1.add (byt_e v 0).2 (show L + 1 + 1 + 1 < 800 by omega)
  have w4 := w3.sm d2
  have e4 := LM_byte w3 c1 (show L + 1 + 1 + 1 < 800 by omega) v (show 0 ≤ 24 by omega) (n + 1)
  obtain ⟨M4, hM4⟩ : ∃ M4, M4 = sI (uI M3 91 (upx (mI M3 91) (L + 1 + 1 + 1) (nI (byt v 0)))) 86 7 (nI (L + 1 + 1 + 1 + 1)) := ⟨_, rfl⟩
  rw [← hM4] at d1 d2 d3 w4 e4
  refine ⟨M4, ?_, ((a2.trans b2).trans c2).trans d2, fun j hj => (d3 j hj).trans ((c3 j hj).trans ((b3 j hj).trans (a3 j hj))), d1, w4⟩
  unfold f12_four f12_four_b3
  rw [hn, show (24 : Int32) = nI 24 from rfl, e1, show nI 24 + -8 = nI 16 by decide, e2, show nI 16 + -8 = nI 8 by decide, e3, show nI 8 + -8 = nI 0 by decide, e4, LP4_s]
  generalize LP4 f12_four_b3_body n = K
  unfold f12_four_b3_body
  rw [if_pos (show nI 0 + -8 < 0 by decide)]
theorem SM_feed {M : MM} (w : Wl M) (h : TaM M L B) (v1 v2 v3 v4 v5 : Int32) : (780 < L ∧ f12_feed M 86 v1 v2 v3 v4 v5 = some (-1, sI M 86 0 0)) ∨ (L ≤ 780 ∧ ∃ M', f12_feed M 86 v1 v2 v3 v4 v5 = some (nI (L + 4 + 4 + 4 + 4 + 4), M') ∧ Sm [86, 91] [] M M' ∧ (∀ j, j ≠ 7 → j ≠ 0 → mI M' 86 j = mI M 86 j) ∧ TaM M' (L + 4 + 4 + 4 + 4 + 4) (fd20 B L v1 v2 v3 v4 v5)) := by
  have := h.2.1
  obtain ⟨M0, hM0⟩ : ∃ M0, M0 = sI M 86 0 0 := ⟨_, rfl⟩
  have s0 : Sm [86] [] M M0 := by rw [hM0]; exact th_sm
  have f0 : ∀ j, j ≠ 0 → mI M0 86 j = mI M 86 j := fun j hj => by rw [hM0]; exact th_f hj
  have w0 : Wl M0 := w.sm s0
  have h0 : TaM M0 L B := ⟨by rw [f0 7 (by decide)]; exact h.1, h.2.1, fun i hi => by rw [s0.i 91 (by decide)]; exact h.2.2 i hi⟩
  unfold f12_feed
  rw [aO_86 w, bM_e, ← hM0, aO_86 w0, h0.1, show (20 : Int32) = nI 20 from rfl, nI_add, show (800 : Int32) = nI 800 from rfl]
  by_cases c : 780 < L
  · rw [if_neg (nI_ge (by omega) (by omega))]
    exact .inl ⟨c, rfl⟩
  · rw [if_pos (nI_le (by omega) (by omega))]
    obtain ⟨M1, a1, a2, a5, a3, a4⟩ := SM_four w0 h0 (by omega) v1
    obtain ⟨M2, b1, b2, b5, b3, b4⟩ := SM_four a4 a3 (by omega) v2
    obtain ⟨M3, c1, c2, c5, c3, c4⟩ := SM_four b4 b3 (by omega) v3
    obtain ⟨M4, d1, d2, d5, d3, d4⟩ := SM_four c4 c3 (by omega) v4
    obtain ⟨M5, e1, e2, e5, e3, e4⟩ := SM_four d4 d3 (by omega) v5
    refine .inr ⟨by omega, M5, ?_, (((((s0.more (by decide) (by decide)).trans a2).trans b2).trans c2).trans d2).trans e2, fun j h7 h0' => ?_, e3⟩
    · rw [aO_86 w0, a1, cV_some, aO_86 a4, b1, cV_some, aO_86 b4, c1, cV_some, aO_86 c4, d1, cV_some, aO_86 d4, e1, cV_some, aO_86 e4, e3.1]
    · rw [e5 j h7, d5 j h7, c5 j h7, b5 j h7, a5 j h7, f0 j h0']
theorem SM_end {M : MM} (w : Wl M) (h : TaM M L B) (v : Int32) : (¬ (0 ≤ v ∧ v ≤ nI L) ∧ f12_end M 86 v = some (-1, sI M 86 0 0)) ∨ (∃ n, v = nI n ∧ n ≤ L ∧ f12_end M 86 v = some (nI n, sI (sI M 86 0 0) 86 7 (nI n)) ∧ Sm [86] [] M (sI (sI M 86 0 0) 86 7 (nI n)) ∧ (∀ j, j ≠ 7 → j ≠ 0 → mI (sI (sI M 86 0 0) 86 7 (nI n)) 86 j = mI M 86 j) ∧ TaM (sI (sI M 86 0 0) 86 7 (nI n)) n B) := by
  have L8 := h.2.1
  obtain ⟨M0, hM0⟩ : ∃ M0, M0 = sI M 86 0 0 := ⟨_, rfl⟩
  have s0 : Sm [86] [] M M0 := by rw [hM0]; exact th_sm
  have f0 : ∀ j, j ≠ 0 → mI M0 86 j = mI M 86 j := fun j hj => by rw [hM0]; exact th_f hj
  have w0 : Wl M0 := w.sm s0
  have e7 : mI M0 86 7 = nI L := by rw [f0 7 (by decide)]; exact h.1
  unfold f12_end f12_in
  rw [aO_86 w, bM_e, ← hM0, aO_86 w0, e7]
  by_cases c0 : v < 0
  · rw [if_pos c0, cI_some, if_pos rfl]
    exact .inl ⟨fun q => Int32.not_le.mpr c0 q.1, rfl⟩
  · rw [if_neg c0]
    have c0' : 0 ≤ v := Int32.not_lt.mp c0
    by_cases c1 : v ≤ nI L
    · obtain ⟨n, hn, e⟩ : ∃ n, n < 2 ^ 31 ∧ v = nI n := by
        obtain ⟨n, h1, h2⟩ := nI_of c0
        exact ⟨n, h1, h2⟩
      have nL : n ≤ L := by
        rw [e, c_le hn (by omega)] at c1
        exact c1
      refine .inr ⟨n, e, nL, ?_, by rw [sI_e]; exact s0.uI _ (by decide), fun j h7 h0' => ?_, ⟨?_, by omega, fun i hi => ?_⟩⟩
      · rw [if_neg (Int32.not_lt.mpr c1), cI_some, if_neg (by decide), aO_86 w0, bM_e, e]
      · rw [mI_sI, if_neg (fun z => h7 z.2)]
        exact f0 j h0'
      · rw [mI_sI, if_pos ⟨rfl, rfl⟩]
      · rw [sI_e, mI_uI, if_neg (by decide), s0.i 91 (by decide)]
        exact h.2.2 i (by omega)
    · rw [if_pos (Int32.not_le.mp c1), cI_some, if_pos rfl]
      exact .inl ⟨fun q => c1 q.2, rfl⟩
end FEED
