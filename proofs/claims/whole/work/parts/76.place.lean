/-! PLACES OF THE CLASS: signs laid on, steps -/
def PlS (M : MM) (b H : Nat) (s : Nat → Nat) : Prop := PlA b ∧ mI M b 0 = nI (pcl b) ∧ mI M b 3 = nI H ∧ H ≤ pcl b ∧ ∀ i, i < H → mI M (b + 2) i = nI (s i)
/-- what lies on behind a rule -/
def pushR (P : PG) (r H : Nat) (s : Nat → Nat) : Nat → Nat := if rn P r = 0 then s else if rn P r = 1 then upx s H (ra P r) else upx (upx s H (rb P r)) (H + 1) (ra P r)
section PLO
variable {M : MM} {P : PG} {b : Nat} {s : Nat → Nat}
theorem PlC.pls {p H : Nat} (h : PlC M b p H s) : PlS M b H s := ⟨h.1, h.2.1, h.2.2.2.1, h.2.2.2.2.1, h.2.2.2.2.2⟩
theorem PlS.c {p H : Nat} (h : PlS M b H s) (k : mI M b 2 = nI p) : PlC M b p H s := ⟨h.1, h.2.1, k, h.2.2.1, h.2.2.2.1, h.2.2.2.2⟩
theorem PlA.lt (h : PlA b) : b + 2 ≤ 45 := by rcases h with rfl | rfl | rfl <;> omega
theorem S6_push (w : Wl M) {H : Nat} (h : PlS M b H s) (hH : H < pcl b) (g : Nat) : ∃ M', f6_push M b (nI g) = some M' ∧ PlS M' b (H + 1) (upx s H g) ∧ Sm [b, b + 2] [] M M' ∧ ∀ j, j ≠ 3 → mI M' b j = mI M b j := by
  obtain ⟨h1, h2, h3, h4, h5⟩ := h
  have pl := pcl_lt b
  have w2 : ∀ {r}, Wl (uI M (b + 2) r) := w
  have e3 : ∀ {r}, mI (uI M (b + 2) r) b = mI M b := fun {r} => by rw [mI_uI, if_neg (by omega)]
  have e4 : mI (sI (uI M (b + 2) (upx (mI M (b + 2)) H (nI g))) b 3 (nI (H + 1))) (b + 2) = upx (mI M (b + 2)) H (nI g) := by
    rw [sI_e, mI_uI, if_neg (by omega), mI_uI, if_pos rfl]
  refine ⟨sI (uI M (b + 2) (upx (mI M (b + 2)) H (nI g))) b 3 (nI (H + 1)), ?_, ⟨h1, ?_, ?_, hH, fun i hi => ?_⟩, ((Sm.rfl _ _ M).uI _ (by simp)).uI _ (by simp), fun j hj => ?_⟩
  · unfold f6_push
    rw [Pl.o w h1, Pl.o w h1, h2, h3, if_neg (nI_ge hH (by omega)), Pl.o w h1, Pl.o w h1, Pl.r w h1, Pl.o1 w h1, Pl.set w h1, cV_some, Pl.o w2 h1, Pl.o w2 h1, bM_e, pI_in hH (by omega), e3, h3, nI_1]
  · rw [mI_sI, if_neg (by omega), e3, h2]
  · rw [mI_sI, if_pos ⟨rfl, rfl⟩]
  · rw [e4, upx_e, upx_e]
    split
    · rfl
    · exact h5 i (by omega)
  · rw [mI_sI, if_neg (fun q => hj q.2), e3]
theorem bne_of (hb : PlA b) : avd [4, 10, 12, 13, 19, 21] [b, b + 2] = true := by rcases hb with rfl | rfl | rfl <;> decide
theorem LS6_step37 (hp : WP P) {a1 r : Nat} (hr : r < pR P) (ha1 : a1 = 4 ∨ a1 = 13) (w : Wl M) (hP : PgC M a1 P) {H : Nat} (h : PlS M b H s) (hH : H + rn P r ≤ pcl b) : ∃ M', f6_stepBy_b37 M b a1 (nI r) (nI (rn P r) - 1) = some M' ∧ PlS M' b (H + rn P r) (pushR P r H s) ∧ Sm [b, b + 2] [] M M' ∧ ∀ j, j ≠ 3 → mI M' b j = mI M b j := by
  have n2 := hp.n2 hr
  have hb := h.1
  have keep : ∀ {M' : MM}, Sm [b, b + 2] [] M M' → PgC M' a1 P := fun sm => hP.sm sm (bne_of hb)
  have body : ∀ f (x : Int32) (M : MM), LP5 f6_stepBy_b37_body (f + 1) M b a1 (nI r) x = if x < 0 then some M else aO M a1 7 <| cI (f7_ofRule M a1 (nI r) (4 + x)) fun r47 M47 => aO M47 b 6 <| cV (f6_push M47 b r47) fun M50 => LP5 f6_stepBy_b37_body f M50 b a1 (nI r) (x + -1) := fun _ _ _ => rfl
  obtain ⟨n, hn⟩ : ∃ n, FU = n + 3 := ⟨FU - 3, by have : (8 : Nat) < FU := FU_big (by omega); omega⟩
  unfold f6_stepBy_b37 pushR
  rw [hn]
  have stop : ∀ f (M : MM), LP5 f6_stepBy_b37_body (f + 1) M b a1 (nI r) (-1) = some M := fun f M => by
    rw [body, if_pos (by decide)]
  by_cases c0 : rn P r = 0
  · rw [c0, if_pos rfl, nI_01, stop]
    exact ⟨M, rfl, h, Sm.rfl _ _ _, fun _ _ => rfl⟩
  · by_cases c1 : rn P r = 1
    · rw [c1, if_neg (by decide), if_pos rfl, nI_sub1 (a := 1) (by omega)]
      obtain ⟨M1, a2, a3, a4, a5⟩ := S6_push w h (show H < pcl b by omega) (ra P r)
      refine ⟨M1, ?_, a3, a4, a5⟩
      rw [body, if_neg (by decide), hP.o w, lit_4, nI_add, show (4 + (1 - 1) : Nat) = 4 from rfl, S7_ofRule w hP hr (by omega) hp, cI_some, Pl.o w hb]
      have : clR P r 4 = nI (ra P r) := by
        unfold clR
        rw [if_neg (by omega)]
        rfl
      rw [this, a2, cV_some, show nI (1 - 1) + (-1) = -1 by decide, stop]
    · have c2 : rn P r = 2 := by omega
      rw [c2, if_neg (by decide), if_neg (by decide), nI_sub1 (a := 2) (by omega)]
      obtain ⟨M1, a2, a3, a4, a5⟩ := S6_push w h (show H < pcl b by omega) (rb P r)
      have w1 : Wl M1 := w.sm a4
      obtain ⟨M2, b2, b3, b4, b5⟩ := S6_push w1 a3 (show H + 1 < pcl b by omega) (ra P r)
      have hP1 := keep a4
      refine ⟨M2, ?_, b3, a4.trans b4, fun j hj => (b5 j hj).trans (a5 j hj)⟩
      rw [body, if_neg (by decide), hP.o w, lit_4, nI_add, show (4 + (2 - 1) : Nat) = 5 from rfl, S7_ofRule w hP hr (by omega) hp, cI_some, Pl.o w hb]
      have e5 : clR P r 5 = nI (rb P r) := by
        unfold clR
        rw [if_neg (by omega)]
        rfl
      have e4 : clR P r 4 = nI (ra P r) := by
        unfold clR
        rw [if_neg (by omega)]
        rfl
      rw [e5, a2, cV_some, show nI (2 - 1) + (-1) = nI 0 by decide, body, if_neg (by decide), hP1.o w1, lit_4, nI_add, show (4 + 0 : Nat) = 4 from rfl, S7_ofRule w1 hP1 hr (by omega) hp, cI_some, Pl.o w1 hb, e4, b2, cV_some, show nI 0 + (-1) = -1 by decide, stop]
theorem S6_stepBy (hp : WP P) {a1 r : Nat} (hr : r < pR P) (w : Wl M) (hP : PgC M a1 P) {p H : Nat} (h : PlC M b p (H + 1) s) (hH : H + rn P r ≤ pcl b) : ∃ M', f6_stepBy M b a1 (nI r) = some M' ∧ PlC M' b (rt P r) (H + rn P r) (pushR P r H s) ∧ Sm [b, b + 2] [] M M' := by
  obtain ⟨h1, h2, h3, h4, h5, h6⟩ := h
  have pl := pcl_lt b
  have hbl := PlA.lt h1
  obtain ⟨M1, hM1⟩ : ∃ M1, M1 = sI M b 3 (nI H) := ⟨_, rfl⟩
  have s1 : Sm [b, b + 2] [] M M1 := by rw [hM1]; exact (Sm.rfl _ _ M).uI _ (by simp)
  have w1 : Wl M1 := w.sm s1
  have hP1 : PgC M1 a1 P := hP.sm s1 (bne_of h1)
  obtain ⟨M2, hM2⟩ : ∃ M2, M2 = sI M1 b 2 (nI (rt P r)) := ⟨_, rfl⟩
  have s2 : Sm [b, b + 2] [] M1 M2 := by rw [hM2]; exact (Sm.rfl _ _ M1).uI _ (by simp)
  have w2 : Wl M2 := w1.sm s2
  have hP2 : PgC M2 a1 P := hP1.sm s2 (bne_of h1)
  have hs : PlS M2 b H s := by
    refine ⟨h1, ?_, ?_, by omega, fun i hi => ?_⟩
    · rw [hM2, mI_sI, if_neg (by omega), hM1, mI_sI, if_neg (by omega), h2]
    · rw [hM2, mI_sI, if_neg (by omega), hM1, mI_sI, if_pos ⟨rfl, rfl⟩]
    · rw [hM2, mI_sI, if_neg (by omega), hM1, mI_sI, if_neg (by omega)]
      exact h6 i (by omega)
  obtain ⟨M', a2, a3, a4, a5⟩ := LS6_step37 hp hr hP.1 w2 hP2 hs hH
  refine ⟨M', ?_, a3.c ?_, (s1.trans s2).trans a4⟩
  · unfold f6_stepBy
    rw [Pl.o w h1, h4]
    simp only [c_eq0 (show H + 1 < 2 ^ 31 by omega)]
    rw [if_neg (by omega), Pl.o w h1, Pl.o w h1, bM_e, nI_sub1 (by omega), show H + 1 - 1 = H by omega, ← hM1, hP1.o w1, S7_or2 w1 hP1 hr hp, cI_some, Pl.o w1 h1, bM_e, ← hM2, hP2.o w2, S7_or3 w2 hP2 hr hp, cI_some, bW_e, a2]
  · rw [a5 2 (by decide), hM2, mI_sI, if_pos ⟨rfl, rfl⟩]
theorem S6_forget (w : Wl M) (hb : PlA b) (h0 : mI M b 0 = nI (pcl b)) : f6_forget M b = some (sI (sI M b 2 (-1)) b 3 0) ∧ PlS (sI (sI M b 2 (-1)) b 3 0) b 0 s ∧ Sm [b, b + 2] [] M (sI (sI M b 2 (-1)) b 3 0) ∧ mI (sI (sI M b 2 (-1)) b 3 0) b 2 = -1 := by
  have w1 : Wl (sI M b 2 (-1)) := w
  refine ⟨?_, ⟨hb, ?_, ?_, Nat.zero_le _, fun i hi => absurd hi (Nat.not_lt_zero i)⟩, ((Sm.rfl _ _ M).uI _ (by simp)).uI _ (by simp), ?_⟩
  · unfold f6_forget
    rw [Pl.o w hb, bM_e, Pl.o w1 hb, bM_e]
  · rw [mI_sI, if_neg (by omega), mI_sI, if_neg (by omega), h0]
  · rw [mI_sI, if_pos ⟨rfl, rfl⟩]
    rfl
  · rw [mI_sI, if_neg (by omega), mI_sI, if_pos ⟨rfl, rfl⟩]
theorem LS6_become6 {a : Nat} (hab : a ≠ b) (hb : PlA b) {p H : Nat} (hH : H ≤ pcl b) : ∀ (d j : Nat), j + d = H → ∀ f, d < f → ∀ M, Wl M → PlC M a p H s → PlS M b j s →
    ∃ M', LP4 f6_become_b6_body f M b a (nI j) = some M' ∧ PlC M' b p H s ∧ Sm [b, b + 2] [] M M'
  | 0, j, hj, f + 1, _, M, w, ha, h => by
    have e : j = H := by omega
    subst e
    have pl := pcl_lt b
    refine ⟨sI M b 2 (nI p), ?_, ?_, (Sm.rfl _ _ M).uI _ (by simp)⟩
    · show f6_become_b6_body _ _ _ _ _ = _
      generalize LP4 f6_become_b6_body f = K
      unfold f6_become_b6_body
      rw [Pl.o w ha.1, ha.2.2.2.1, if_pos (nI_le (Nat.le_refl _) (by omega)), Pl.o w ha.1, Pl.o w hb, bM_e, ha.2.2.1]
    · obtain ⟨q1, q2, q3, q4, q5⟩ := h
      refine ⟨q1, ?_, ?_, ?_, q4, fun i hi => ?_⟩
      · rw [mI_sI, if_neg (by omega), q2]
      · rw [mI_sI, if_pos ⟨rfl, rfl⟩]
      · rw [mI_sI, if_neg (by omega), q3]
      · rw [mI_sI, if_neg (by omega)]
        exact q5 i hi
  | d + 1, j, hj, f + 1, hf, M, w, ha, h => by
    have pl := pcl_lt b
    have pl2 := pcl_lt a
    have hH2 := ha.2.2.2.2.1
    obtain ⟨M1, a2, a3, a4, a5⟩ := S6_push w h (show j < pcl b by omega) (s j)
    have w1 : Wl M1 := w.sm a4
    have ha1 := ha.1
    have n1 : a ∉ [b, b + 2] ∧ a + 2 ∉ [b, b + 2] := by
      rcases ha1 with rfl | rfl | rfl <;> rcases hb with rfl | rfl | rfl <;> first | (exact absurd rfl hab) | decide
    have hc : PlC M1 a p H s := by
      obtain ⟨q1, q2, q3, q4, q5, q6⟩ := ha
      refine ⟨q1, ?_, ?_, ?_, q5, fun i hi => ?_⟩
      · rw [a4.i a n1.1, q2]
      · rw [a4.i a n1.1, q3]
      · rw [a4.i a n1.1, q4]
      · rw [a4.i (a + 2) n1.2]
        exact q6 i hi
    have e : upx s j (s j) = s := upx_id s j
    rw [e] at a3
    obtain ⟨M', c1, c2, c3⟩ := LS6_become6 hab hb hH d (j + 1) (by omega) f (by omega) M1 w1 hc a3
    refine ⟨M', ?_, c2, a4.trans c3⟩
    rw [← c1]
    show f6_become_b6_body _ _ _ _ _ = _
    generalize LP4 f6_become_b6_body f = K
    unfold f6_become_b6_body
    rw [Pl.o w ha1, ha.2.2.2.1, if_neg (nI_ge (by omega) (by omega)), Pl.o w ha1, S6_signAt w ha1 (by omega), cI_some, Pl.o w hb, ha.2.2.2.2.2 j (by omega), a2, cV_some, nI_1]
theorem S6_become {a : Nat} (w : Wl M) (hab : a ≠ b) (hb : PlA b) (h0 : mI M b 0 = nI (pcl b)) {p H : Nat} (hH : H ≤ pcl b) (ha : PlC M a p H s) : ∃ M', f6_become M b a = some M' ∧ PlC M' b p H s ∧ Sm [b, b + 2] [] M M' := by
  obtain ⟨a1, a2, a3, a4⟩ := S6_forget (s := s) w hb h0
  have n1 : a ∉ [b, b + 2] ∧ a + 2 ∉ [b, b + 2] := by
    have ha1 := ha.1
    rcases ha1 with rfl | rfl | rfl <;> rcases hb with rfl | rfl | rfl <;> first | (exact absurd rfl hab) | decide
  have hc : PlC (sI (sI M b 2 (-1)) b 3 0) a p H s := by
    obtain ⟨q1, q2, q3, q4, q5, q6⟩ := ha
    refine ⟨q1, ?_, ?_, ?_, q5, fun i hi => ?_⟩
    · rw [a3.i a n1.1, q2]
    · rw [a3.i a n1.1, q3]
    · rw [a3.i a n1.1, q4]
    · rw [a3.i (a + 2) n1.2]
      exact q6 i hi
  have pl := pcl_lt b
  obtain ⟨M', c1, c2, c3⟩ := LS6_become6 hab hb hH H 0 (by omega) FU (FU_big (by omega)) _ (w.sm a3) hc a2
  refine ⟨M', ?_, c2, a3.trans c3⟩
  unfold f6_become
  rw [Pl.o w hb, a1, cV_some]
  exact c1
theorem S6_top (w : Wl M) {p H : Nat} (h : PlC M b p H s) {i : Nat} (hi : i < H) : f6_fromTop M b (nI i) = some (nI (s (H - 1 - i)), M) := by
  obtain ⟨h1, h2, h3, h4, h5, h6⟩ := h
  have pl := pcl_lt b
  unfold f6_fromTop
  rw [Pl.o w h1, Pl.o w h1, Pl.r w h1, Pl.o1 w h1, Pl.get w h1, cI_some, h4, nI_sub1 (by omega), nI_subN (by omega), gI_in (by omega) (by omega), h6 _ (by omega)]
theorem S7_applies {a1 o : Nat} (w : Wl M) (hP : PgC M a1 P) (hp : WP P) (ho : o < 2 ^ 31) {p H r : Nat} (h : PlC M b p H s) (hr : r < 32) (hp2 : p < 2 ^ 31) (hs : ∀ i, i < H → s i < 6) : f7_applies M a1 (nI r) b (nI o) = some (bI (decide (0 < H) && rfor P o r p (s (H - 1))), M) := by
  have pl := pcl_lt b
  have h' := h
  obtain ⟨h1, h2, h3, h4, h5, h6⟩ := h
  unfold f7_applies
  rw [Pl.o w h1, h4]
  simp only [c_le0 (show H < 2 ^ 31 by omega)]
  by_cases c : H = 0
  · rw [if_pos c, decide_eq_false (by omega)]
    rfl
  · have := hs (H - 1) (by omega)
    rw [if_neg c, Pl.o w h1, Pl.o w h1, lit_0, S6_top w h' (by omega), cI_some, hP.o w, h3, Nat.sub_zero, S7_isFor w hP hp hr ho hp2 (by omega), cI_some, decide_eq_true (by omega), Bool.true_and]
    cases rfor P o r p (s (H - 1)) <;> rfl
end PLO
