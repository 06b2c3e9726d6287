/-! THE TAPE: tokens at the class, all -/
section TOKC2
variable {L : Nat} {B : Nat → Nat}
theorem L9_tn5 {M0 : MM} (w0 : Wl M0) (h0 : TpC M0 L B) {pl : Nat} (hp : mI M0 2 4 = nI pl) (hpl : pl ≤ L) : ∀ (d n : Nat), pl + n + d = L → ∀ f, d < f → ∀ M, Sm [2] [2] M0 M → (∀ j, j ≠ 1 → j ≠ 6 → mI M 2 j = mI M0 2 j) → mI M 2 1 = nI (pl + n) → (n ≤ 3 → mI M 2 6 = nI (dcN B pl n)) → (∀ i, pl ≤ i → i < pl + n → atP isDg L B i = true) →
    ∃ M', LP2 f9_takeNumber_b5_body f M 2 = some (sI M' 2 3 (nI (if enD isDg L B (pl + n) - pl ≤ 3 ∧ atP isLt L B (enD isDg L B (pl + n)) = false then 3 else 1))) ∧ Sm [2] [2] M0 M' ∧ (∀ j, j ≠ 1 → j ≠ 6 → mI M' 2 j = mI M0 2 j) ∧ mI M' 2 1 = nI (enD isDg L B (pl + n)) ∧ (enD isDg L B (pl + n) - pl ≤ 3 → mI M' 2 6 = nI (dcN B pl (enD isDg L B (pl + n) - pl)))
  | d, n, hd, 0, hf, _, _, _, _, _, _ => absurd hf (Nat.not_lt_zero _)
  | d, n, hd, f + 1, hf, M, s, fl, h1, hw, hin => by
    have w := w0.sm s
    have h := h0.sm s (fl 2 (by decide) (by decide)) (by decide)
    have L8 := h.2.1
    have h4 : mI M 2 4 = nI pl := (fl 4 (by decide) (by decide)).trans hp
    by_cases c : atP isDg L B (pl + n) = true
    · obtain ⟨lt, il⟩ := atP_lt c
      have e : enD isDg L B (pl + n) = enD isDg L B (pl + (n + 1)) := by rw [enD_s, if_pos c]; rfl
      have bb := (h.2.2 (pl + n) lt).2
      unfold isDg at il
      rw [Bool.and_eq_true, decide_eq_true_eq, decide_eq_true_eq] at il
      cases d with
      | zero => omega
      | succ d =>
        obtain ⟨M1, hM1⟩ : ∃ M1, M1 = sI M 2 6 (mI M 2 6 * 10 + bvA L B (pl + n) - 48) := ⟨_, rfl⟩
        have s1 : Sm [2] [2] M0 M1 := by rw [hM1, sI_e]; exact s.uI _ (by decide)
        have i1 : mI M1 2 1 = nI (pl + n) := by rw [hM1, mI_sI, if_neg (by decide)]; exact h1
        have w1 := w0.sm s1
        obtain ⟨M2, hM2⟩ : ∃ M2, M2 = sI M1 2 1 (nI (pl + n + 1)) := ⟨_, rfl⟩
        have s2 : Sm [2] [2] M0 M2 := by rw [hM2, sI_e]; exact s1.uI _ (by decide)
        have f2 : ∀ j, j ≠ 1 → j ≠ 6 → mI M2 2 j = mI M0 2 j := fun j hj hj6 => by rw [hM2, mI_sI, if_neg (fun z => hj z.2), hM1, mI_sI, if_neg (fun z => hj6 z.2)]; exact fl j hj hj6
        have g2 : mI M2 2 1 = nI (pl + (n + 1)) := by rw [hM2, mI_sI, if_pos ⟨rfl, rfl⟩]; rfl
        have j2 : n + 1 ≤ 3 → mI M2 2 6 = nI (dcN B pl (n + 1)) := fun z => by
          have dl := dcN_lt (L := L) (B := B) (pl := pl) (n := n) hin
          have : 10 ^ n ≤ 10 ^ 2 := Nat.pow_le_pow_right (by decide) (by omega)
          have c40 : (10 : Nat) ^ 2 = 100 := by decide
          rw [hM2, mI_sI, if_neg (by decide), hM1, mI_sI, if_pos ⟨rfl, rfl⟩, hw (by omega)]
          unfold bvA
          rw [if_pos lt, show (10 : Int32) = nI 10 from rfl, nI_mulN, nI_add, show (48 : Int32) = nI 48 from rfl, nI_subN (by omega)]
          show nI _ = nI (dcN B pl n * 10 + (B (pl + n) - 48))
          congr 1
          omega
        obtain ⟨M', k1, k2⟩ := L9_tn5 w0 h0 hp hpl d (n + 1) (by omega) f (by omega) M2 s2 f2 g2 j2 (fun i a1 a2 => by
          by_cases q : i = pl + n
          · rw [q]
            exact c
          · exact hin i a1 (by omega))
        rw [e]
        refine ⟨M', ?_, k2⟩
        rw [← k1, LP2_s]
        generalize LP2 f9_takeNumber_b5_body f = K
        unfold f9_takeNumber_b5_body
        rw [aO_2 w, aO_2 w, h.1, h1, if_neg (nI_ge lt (by omega)), aO_2 w, aO_2 w, S9_byteAt w h (by omega), cI_some, S9_isDigit h, cI_some, c, if_neg (show ¬ bI true = 0 by decide), aO_2 w, aO_2 w, aO_2 w, h1, S9_byteAt w h (by omega), cI_some, aO_2 w, bM_e, ← hM1, aO_2 w1, aO_2 w1, i1, nI_1, bM_e, ← hM2]
    · have e : enD isDg L B (pl + n) = pl + n := by rw [enD_s, if_neg c]
      rw [e]
      have b66 : f9_takeNumber_b66 M 2 = some (sI M 2 3 (nI (if pl + n - pl ≤ 3 ∧ atP isLt L B (pl + n) = false then 3 else 1))) := by
        unfold f9_takeNumber_b66 f9_takeNumber_b84 f9_takeNumber_b108
        rw [aO_2 w, aO_2 w, h1, h4, nI_subN (by omega)]
        by_cases q : nI 3 < nI (pl + n - pl)
        · rw [if_pos (show (3 : Int32) < nI (pl + n - pl) from q), if_pos rfl, aO_2 w, bM_e]
          rw [c_lt (by omega) (by omega)] at q
          rw [if_neg (fun z => by omega)]
          rfl
        · rw [if_neg (show ¬ (3 : Int32) < nI (pl + n - pl) from q), if_neg (by decide), aO_2 w, aO_2 w, S9_byteAt w h (by omega), cI_some, S9_isLetter h, cI_some]
          rw [c_lt (by omega) (by omega)] at q
          cases t : atP isLt L B (pl + n) with
          | false =>
            rw [if_pos (show bI false = 0 from rfl), if_pos ⟨by omega, rfl⟩, aO_2 w, bM_e]
            rfl
          | true =>
            rw [if_neg (show ¬ bI true = 0 by decide), if_neg (fun z => by cases z.2), aO_2 w, bM_e]
            rfl
      refine ⟨M, ?_, s, fl, h1, fun z => ?_⟩
      · rw [LP2_s]
        generalize LP2 f9_takeNumber_b5_body f = K
        unfold f9_takeNumber_b5_body
        rw [aO_2 w, aO_2 w, h.1, h1]
        by_cases q : nI L ≤ nI (pl + n)
        · rw [if_pos q, b66]
        · rw [Bool.not_eq_true] at c
          rw [if_neg q, aO_2 w, aO_2 w, S9_byteAt w h (by omega), cI_some, S9_isDigit h, cI_some, c, if_pos (show bI false = 0 from rfl), b66]
      · rw [show pl + n - pl = n by omega]
        exact hw (by omega)
theorem L9_tx46 {M : MM} (w : Wl M) (h : TpC M L B) {pl : Nat} (hp : mI M 2 4 = nI pl) (hpl : pl ≤ L) : ∃ M', f9_takeNext_b46 M 2 = some M' ∧ Sm [2] [2] M M' ∧ mI M' 2 2 = mI M 2 2 ∧ TkC M' (tokA L B pl) := by
  have L8 := h.2.1
  obtain ⟨M1, hM1⟩ : ∃ M1, M1 = sI M 2 1 (nI pl) := ⟨_, rfl⟩
  have s1 : Sm [2] [2] M M1 := by rw [hM1, sI_e]; exact (Sm.rfl _ _ M).uI _ (by decide)
  have f1 : ∀ j, j ≠ 1 → mI M1 2 j = mI M 2 j := fun j hj => by rw [hM1, mI_sI, if_neg (fun z => hj z.2)]
  have g1 : mI M1 2 1 = nI pl := by rw [hM1, mI_sI, if_pos ⟨rfl, rfl⟩]
  have w1 := w.sm s1
  have h1 := h.sm s1 (f1 2 (by decide)) (by decide)
  have p1 : mI M1 2 4 = nI pl := (f1 4 (by decide)).trans hp
  have head : f9_takeNext_b46 M 2 = (if mI M1 2 4 < mI M1 2 2 then
    cI (f9_isLetter M1 (bvA L B pl)) fun r83 M83 =>
    if r83 = 0 then
      cI (f9_isDigit M83 (bvA L B pl)) fun r97 M97 =>
      if r97 = 0 then
        if bvA L B pl = (59 : Int32) then
          f9_takeNext_b122 M97 2 (4 : Int32) 2
        else
          f9_takeNext_b122 M97 2 (1 : Int32) 2
      else
        aO M97 2 9 <|
        cV (f9_takeNumber M97 2) fun M104 =>
        some M104
    else
      aO M83 2 9 <|
      cV (f9_takeWord M83 2) fun M90 =>
      some M90
  else
    aO M1 2 9 <|
    bM (sI M1 2 3 (0 : Int32)) fun M76 =>
    some M76) := by
    unfold f9_takeNext_b46
    rw [aO_2 w, aO_2 w, hp, S9_byteAt w h (by omega), cI_some, aO_2 w, aO_2 w, hp, bM_e, ← hM1, aO_2 w1, aO_2 w1]
  rw [head, p1, h1.1]
  unfold tokA
  by_cases c : L ≤ pl
  · rw [if_neg (show ¬ nI pl < nI L by rw [c_lt (by omega) (by omega)]; omega), if_pos c, aO_2 w1, bM_e]
    refine ⟨_, rfl, by rw [sI_e]; exact s1.uI _ (by decide), by rw [mI_sI, if_neg (by decide)]; exact f1 2 (by decide), ?_, ?_, ?_, (fun z => by cases z), (fun z => by cases z)⟩
    · rw [mI_sI, if_neg (by decide)]; exact g1
    · rw [mI_sI, if_pos ⟨rfl, rfl⟩]; rfl
    · rw [mI_sI, if_neg (by decide)]; exact p1
  · rw [if_pos (show nI pl < nI L by rw [c_lt (by omega) (by omega)]; omega), if_neg c, S9_isLetter h1, cI_some]
    have a1 : atP isLt L B pl = isLt (B pl) := by unfold atP; rw [decide_eq_true (by omega), Bool.true_and]
    have a2 : atP isDg L B pl = isDg (B pl) := by unfold atP; rw [decide_eq_true (by omega), Bool.true_and]
    rw [a1]
    by_cases c1 : isLt (B pl) = true
    · rw [c1, if_neg (show ¬ bI true = 0 by decide), if_pos rfl, aO_2 w1]
      obtain ⟨M2, hM2⟩ : ∃ M2, M2 = sJ M1 2 5 0 := ⟨_, rfl⟩
      have s2 : Sm [2] [2] M1 M2 := by rw [hM2, sJ_e]; exact (Sm.rfl _ _ M1).uJ _ (by decide)
      have i2 : mI M2 = mI M1 := by rw [hM2]; rfl
      have w2 := w1.sm s2
      obtain ⟨M3, k1, k2, k3, k4, k5⟩ := L9_tw5 w2 (h1.sm s2 (by rw [i2]) (by decide)) (by rw [i2]; exact p1) hpl (L - pl) 0 (by omega) FU (FU_big (by omega)) M2 (Sm.rfl _ _ _) (fun _ _ => rfl) (by rw [i2]; exact g1) (fun _ => by rw [hM2, sJ_e, mJ_uJ, if_pos rfl, upx_e, if_pos rfl]; rfl) (fun i x1 x2 => by omega)
      have k1' : f9_takeWord M1 2 = some (sI M3 2 3 (nI (if enD isLt L B (pl + 0) - pl ≤ 6 then 2 else 1))) := by
        unfold f9_takeWord
        rw [aO_2 w1, bM_e, ← hM2]
        exact k1
      rw [k1', cV_some]
      rw [Nat.add_zero] at *
      refine ⟨_, rfl, by rw [sI_e]; exact ((s1.trans s2).trans k2).uI _ (by decide), ?_, ?_, ?_, ?_, fun z => ?_, fun z => ?_⟩
      · rw [mI_sI, if_neg (by decide), k3 2 (by decide), i2, f1 2 (by decide)]
      · rw [mI_sI, if_neg (by decide)]
        exact k4
      · rw [mI_sI, if_pos ⟨rfl, rfl⟩]
        rfl
      · rw [mI_sI, if_neg (by decide), k3 4 (by decide), i2]
        exact p1
      · have z' : (if enD isLt L B pl - pl ≤ 6 then 2 else 1) = 2 := z
        by_cases q : enD isLt L B pl - pl ≤ 6
        · exact k5 q
        · rw [if_neg q] at z'
          cases z'
      · have z' : (if enD isLt L B pl - pl ≤ 6 then 2 else 1) = 3 := z
        split at z' <;> cases z'
    · rw [if_neg c1]
      rw [Bool.not_eq_true] at c1
      rw [c1, if_pos (show bI false = 0 from rfl), S9_isDigit h1, cI_some, a2]
      by_cases c2 : isDg (B pl) = true
      · rw [c2, if_neg (show ¬ bI true = 0 by decide), if_pos rfl, aO_2 w1]
        obtain ⟨M2, hM2⟩ : ∃ M2, M2 = sI M1 2 6 0 := ⟨_, rfl⟩
        have s2 : Sm [2] [2] M1 M2 := by rw [hM2, sI_e]; exact (Sm.rfl _ _ M1).uI _ (by decide)
        have i2 : ∀ j, j ≠ 6 → mI M2 2 j = mI M1 2 j := fun j hj => by rw [hM2, mI_sI, if_neg (fun z => hj z.2)]
        have w2 := w1.sm s2
        obtain ⟨M3, k1, k2, k3, k4, k5⟩ := L9_tn5 w2 (h1.sm s2 (i2 2 (by decide)) (by decide)) ((i2 4 (by decide)).trans p1) hpl (L - pl) 0 (by omega) FU (FU_big (by omega)) M2 (Sm.rfl _ _ _) (fun _ _ _ => rfl) ((i2 1 (by decide)).trans g1) (fun _ => by rw [hM2, mI_sI, if_pos ⟨rfl, rfl⟩]; rfl) (fun i x1 x2 => by omega)
        have k1' : f9_takeNumber M1 2 = some (sI M3 2 3 (nI (if enD isDg L B (pl + 0) - pl ≤ 3 ∧ atP isLt L B (enD isDg L B (pl + 0)) = false then 3 else 1))) := by
          unfold f9_takeNumber
          rw [aO_2 w1, bM_e, ← hM2]
          exact k1
        rw [k1', cV_some]
        rw [Nat.add_zero] at *
        refine ⟨_, rfl, by rw [sI_e]; exact ((s1.trans s2).trans k2).uI _ (by decide), ?_, ?_, ?_, ?_, fun z => ?_, fun z => ?_⟩
        · rw [mI_sI, if_neg (by decide), k3 2 (by decide) (by decide), i2 2 (by decide), f1 2 (by decide)]
        · rw [mI_sI, if_neg (by decide)]
          exact k4
        · rw [mI_sI, if_pos ⟨rfl, rfl⟩]
          rfl
        · rw [mI_sI, if_neg (by decide), k3 4 (by decide) (by decide), i2 4 (by decide)]
          exact p1
        · have z' : (if enD isDg L B pl - pl ≤ 3 ∧ atP isLt L B (enD isDg L B pl) = false then 3 else 1) = 2 := z
          split at z' <;> cases z'
        · have z' : (if enD isDg L B pl - pl ≤ 3 ∧ atP isLt L B (enD isDg L B pl) = false then 3 else 1) = 3 := z
          by_cases q : enD isDg L B pl - pl ≤ 3 ∧ atP isLt L B (enD isDg L B pl) = false
          · rw [mI_sI, if_neg (by decide)]
            exact k5 q.1
          · rw [if_neg q] at z'
            cases z'
      · rw [if_neg c2]
        rw [Bool.not_eq_true] at c2
        have key := bv_eq h1 pl 59 (by omega)
        have a3 : atP (fun b => decide (b = 59)) L B pl = decide (B pl = 59) := by unfold atP; rw [decide_eq_true (by omega), Bool.true_and]
        rw [a3, decide_eq_true_iff] at key
        have fin : ∀ k : Nat, ∃ M', f9_takeNext_b122 M1 2 (nI k) 2 = some M' ∧ Sm [2] [2] M M' ∧ mI M' 2 2 = mI M 2 2 ∧ mI M' 2 1 = nI (pl + 1) ∧ mI M' 2 3 = nI k ∧ mI M' 2 4 = nI pl := fun k => by
          have wa : Wl (sI M1 2 3 (nI k)) := w1
          have ea : mI (sI M1 2 3 (nI k)) 2 1 = nI pl := by rw [mI_sI, if_neg (by decide)]; exact g1
          refine ⟨sI (sI M1 2 3 (nI k)) 2 1 (nI (pl + 1)), ?_, by rw [sI_e, sI_e]; exact (s1.uI _ (by decide)).uI _ (by decide), ?_, ?_, ?_, ?_⟩
          · unfold f9_takeNext_b122
            rw [aO_2 w1, bM_e, aO_2 wa, aO_2 wa, ea, nI_1, bM_e]
          · rw [mI_sI, if_neg (by decide), mI_sI, if_neg (by decide)]; exact f1 2 (by decide)
          · rw [mI_sI, if_pos ⟨rfl, rfl⟩]
          · rw [mI_sI, if_neg (by decide), mI_sI, if_pos ⟨rfl, rfl⟩]
          · rw [mI_sI, if_neg (by decide), mI_sI, if_neg (by decide)]; exact p1
        rw [c2, if_pos (show bI false = 0 from rfl)]
        by_cases c3 : B pl = 59
        · obtain ⟨M', m1, m2, m3, m4, m5, m6⟩ := fin 4
          rw [if_pos (show bvA L B pl = (59 : Int32) from key.mpr c3), if_pos c3]
          exact ⟨M', m1, m2, m3, m4, m5, m6, (fun z => by cases z), (fun z => by cases z)⟩
        · obtain ⟨M', m1, m2, m3, m4, m5, m6⟩ := fin 1
          rw [if_neg (show ¬ bvA L B pl = (59 : Int32) from fun z => c3 (key.mp z)), if_neg c3]
          exact ⟨M', m1, m2, m3, m4, m5, m6, (fun z => by cases z), (fun z => by cases z)⟩
theorem L9_tx8 {M0 : MM} (w0 : Wl M0) (h0 : TpC M0 L B) : ∀ (d b : Nat), b + d = L → ∀ f, d < f → ∀ M, Sm [2] [2] M0 M → mI M 2 2 = mI M0 2 2 → mI M 2 4 = nI b → ∃ M', LP2 f9_takeNext_b8_body f M 2 = some M' ∧ Sm [2] [2] M0 M' ∧ mI M' 2 2 = mI M0 2 2 ∧ TkC M' (tok L B b)
  | d, b, hd, 0, hf, _, _, _, _ => absurd hf (Nat.not_lt_zero _)
  | d, b, hd, f + 1, hf, M, s, h2, h4 => by
    have w := w0.sm s
    have h := h0.sm s h2 (by decide)
    have L8 := h.2.1
    by_cases c : atP isBl L B b = true
    · obtain ⟨lt, il⟩ := atP_lt c
      cases d with
      | zero => omega
      | succ d =>
        have e : tok L B b = tok L B (b + 1) := by
          unfold tok
          rw [show enD isBl L B b = enD isBl L B (b + 1) by rw [enD_s, if_pos c]]
        obtain ⟨M', k1, k2⟩ := L9_tx8 w0 h0 d (b + 1) (by omega) f (by omega) (sI M 2 4 (nI (b + 1))) (by rw [sI_e]; exact s.uI _ (by decide)) (by rw [mI_sI, if_neg (by decide)]; exact h2) (by rw [mI_sI, if_pos ⟨rfl, rfl⟩])
        rw [e]
        refine ⟨M', ?_, k2⟩
        rw [← k1, LP2_s]
        generalize LP2 f9_takeNext_b8_body f = K
        unfold f9_takeNext_b8_body
        rw [aO_2 w, aO_2 w, h.1, h4, if_neg (nI_ge lt (by omega)), aO_2 w, aO_2 w, S9_byteAt w h (by omega), cI_some, S9_isBlank h, cI_some, c, if_neg (show ¬ bI true = 0 by decide), aO_2 w, aO_2 w, h4, nI_1, bM_e]
    · have e : tok L B b = tokA L B b := by
        unfold tok
        rw [enD_s, if_neg c]
      obtain ⟨M', k1, k2, k3, k4⟩ := L9_tx46 w h h4 (by omega)
      rw [e]
      refine ⟨M', ?_, s.trans k2, k3.trans h2, k4⟩
      rw [LP2_s]
      generalize LP2 f9_takeNext_b8_body f = K
      unfold f9_takeNext_b8_body
      rw [aO_2 w, aO_2 w, h.1, h4]
      by_cases q : nI L ≤ nI b
      · rw [if_pos q, k1]
      · rw [Bool.not_eq_true] at c
        rw [if_neg q, aO_2 w, aO_2 w, S9_byteAt w h (by omega), cI_some, S9_isBlank h, cI_some, c, if_pos (show bI false = 0 from rfl), k1]
theorem S9_takeNext {M : MM} (w : Wl M) (h : TpC M L B) {b : Nat} (hb : b ≤ L) (h1 : mI M 2 1 = nI b) : ∃ M', f9_takeNext M 2 = some M' ∧ Sm [2] [2] M M' ∧ TpC M' L B ∧ TkC M' (tok L B b) := by
  have s1 : Sm [2] [2] M (sI M 2 4 (nI b)) := by rw [sI_e]; exact (Sm.rfl _ _ M).uI _ (by decide)
  have L8 := h.2.1
  obtain ⟨M', k1, k2, k3, k4⟩ := L9_tx8 w h (L - b) b (by omega) FU (FU_big (by omega)) (sI M 2 4 (nI b)) s1 (by rw [mI_sI, if_neg (by decide)]) (by rw [mI_sI, if_pos ⟨rfl, rfl⟩])
  refine ⟨M', ?_, k2, h.sm k2 k3 (by decide), k4⟩
  unfold f9_takeNext
  rw [aO_2 w, aO_2 w, h1, bM_e]
  exact k1
end TOKC2
