/-! THE TAPE: tokens at the reference, all -/
section TOKM2
variable {L : Nat} {B : Nat → Nat}
theorem bvm_neg {M : MM} (h : TpM M L B) (i : Nat) : (bvA L B i = -1) ↔ L ≤ i := by
  unfold bvA
  by_cases q : i < L
  · have b := (h.2.2 i q).2
    rw [if_pos q]
    exact ⟨fun z => absurd z (nI_neM (by omega)), fun z => by omega⟩
  · rw [if_neg q]
    exact ⟨fun _ => by omega, fun _ => rfl⟩
theorem LM_nt0 {M0 : MM} (w0 : Wl M0) (h0 : TpM M0 L B) : ∀ (d b : Nat), b + d = L → ∀ f, d < f → ∀ M, Sm [86] [] M0 M → (∀ j, tF j → mI M 86 j = mI M0 86 j) → mI M 86 10 = nI b → ∃ M', LP2 f12_nextToken_b0_body f M 86 = some M' ∧ Sm [86] [] M0 M' ∧ (∀ j, tF j → mI M' 86 j = mI M0 86 j) ∧ TkM M' (tok L B b)
  | d, b, hd, 0, hf, _, _, _, _ => absurd hf (Nat.not_lt_zero _)
  | d, b, hd, f + 1, hf, M, s, fl, h1 => by
    have w := w0.sm s
    have h := h0.sm s (fl 8 (by unfold tF; omega)) (by decide)
    have L8 := h.2.1
    by_cases c : atP isBl L B b = true
    · obtain ⟨lt, il⟩ := atP_lt c
      cases d with
      | zero => omega
      | succ d =>
        have e : tok L B b = tok L B (b + 1) := by
          unfold tok
          rw [show enD isBl L B b = enD isBl L B (b + 1) by rw [enD_s, if_pos c]]
        obtain ⟨M', k1, k2⟩ := LM_nt0 w0 h0 d (b + 1) (by omega) f (by omega) (sI M 86 10 (nI (b + 1))) (by rw [sI_e]; exact s.uI _ (by decide)) (fun j hj => by rw [mI_sI, if_neg (fun z => hj.2.1 z.2)]; exact fl j hj) (by rw [mI_sI, if_pos ⟨rfl, rfl⟩])
        rw [e]
        refine ⟨M', ?_, k2⟩
        rw [← k1, LP2_s]
        generalize LP2 f12_nextToken_b0_body f = K
        unfold f12_nextToken_b0_body f12_nextToken_b26
        rw [aO_86 w, aO_86 w, h1, SM_byteAt w h (by omega), cI_some]
        by_cases q : bvA L B b = (32 : Int32)
        · rw [if_pos q, aO_86 w, aO_86 w, h1, nI_1, bM_e]
        · rw [if_neg q, aO_86 w, aO_86 w, h1, SM_byteAt w h (by omega), cI_some, if_pos (show bvA L B b = (10 : Int32) by rcases (bvm_bl h b).mpr c with z | z; exact absurd z q; exact z), aO_86 w, aO_86 w, h1, nI_1, bM_e]
    · have e : tok L B b = tokA L B b := by
        unfold tok
        rw [enD_s, if_neg c]
      have n32 : ¬ bvA L B b = (32 : Int32) := fun z => c ((bvm_bl h b).mp (.inl z))
      have n10 : ¬ bvA L B b = (10 : Int32) := fun z => c ((bvm_bl h b).mp (.inr z))
      obtain ⟨M1, hM1⟩ : ∃ M1, M1 = sI M 86 9 (nI b) := ⟨_, rfl⟩
      have s1 : Sm [86] [] M0 M1 := by rw [hM1, sI_e]; exact s.uI _ (by decide)
      have w1 := w0.sm s1
      have g10 : mI M1 86 10 = nI b := by rw [hM1, mI_sI, if_neg (by decide)]; exact h1
      have g9 : mI M1 86 9 = nI b := by rw [hM1, mI_sI, if_pos ⟨rfl, rfl⟩]
      have hh1 : TpM M1 L B := h0.sm s1 (by rw [hM1, mI_sI, if_neg (by decide)]; exact fl 8 (by unfold tF; omega)) (by decide)
      obtain ⟨M2, hM2⟩ : ∃ M2, M2 = sI M1 86 12 0 := ⟨_, rfl⟩
      have s2 : Sm [86] [] M0 M2 := by rw [hM2, sI_e]; exact s1.uI _ (by decide)
      have w2 := w0.sm s2
      have k10 : mI M2 86 10 = nI b := by rw [hM2, mI_sI, if_neg (by decide)]; exact g10
      have k9 : mI M2 86 9 = nI b := by rw [hM2, mI_sI, if_neg (by decide)]; exact g9
      have k12 : mI M2 86 12 = nI 0 := by rw [hM2, mI_sI, if_pos ⟨rfl, rfl⟩]; rfl
      have f2 : ∀ j, tF j → mI M2 86 j = mI M0 86 j := fun j hj => by rw [hM2, mI_sI, if_neg (fun z => hj.2.2.2 z.2), hM1, mI_sI, if_neg (fun z => hj.1 z.2)]; exact fl j hj
      have hh2 : TpM M2 L B := h0.sm s2 (f2 8 (by unfold tF; omega)) (by decide)
      have head : LP2 f12_nextToken_b0_body (f + 1) M 86 = (if bvA L B b = (-1 : Int32) then
        aO M2 86 12 <|
        bM (sI M2 86 11 (0 : Int32)) fun M68 =>
        some M68
      else
        cI (f12_isSmall M2 (bvA L B b)) fun r75 M75 =>
        if r75 = 0 then
          cI (f12_isDigit M75 (bvA L B b)) fun r176 M176 =>
          if r176 = 0 then
            aO M176 86 12 <|
            aO M176 86 12 <|
            bM (sI M176 86 10 ((mI M176 86 10) + (1 : Int32))) fun M295 =>
            if bvA L B b = (59 : Int32) then
              aO M295 86 12 <|
              bM (sI M295 86 11 (3 : Int32)) fun M310 =>
              some M310
            else
              aO M295 86 12 <|
              bM (sI M295 86 11 (4 : Int32)) fun M310 =>
              some M310
          else
            f12_nextToken_b182 M176 86
        else
          f12_nextToken_b81 M75 86) := by
        rw [LP2_s]
        generalize LP2 f12_nextToken_b0_body f = K
        unfold f12_nextToken_b0_body
        rw [aO_86 w, aO_86 w, h1, SM_byteAt w h (by omega), cI_some, if_neg n32, aO_86 w, aO_86 w, h1, SM_byteAt w h (by omega), cI_some, if_neg n10, aO_86 w, aO_86 w, h1, bM_e, ← hM1, aO_86 w1, aO_86 w1, g9, SM_byteAt w1 hh1 (by omega), cI_some, aO_86 w1, bM_e, ← hM2]
      rw [head, e]
      unfold tokA
      by_cases c0 : L ≤ b
      · rw [if_pos ((bvm_neg h b).mpr c0), if_pos c0, aO_86 w2, bM_e]
        refine ⟨_, rfl, by rw [sI_e]; exact s2.uI _ (by decide), fun j hj => by rw [mI_sI, if_neg (fun z => hj.2.2.1 z.2)]; exact f2 j hj, ?_, ?_, ?_, (fun z => by cases z), (fun z => by cases z)⟩
        · rw [mI_sI, if_neg (by decide)]; exact k10
        · rw [mI_sI, if_pos ⟨rfl, rfl⟩]; rfl
        · rw [mI_sI, if_neg (by decide)]; exact k9
      · rw [if_neg (fun z => c0 ((bvm_neg h b).mp z)), if_neg c0, SM_isSmall hh2, cI_some]
        have a1 : atP isLt L B b = isLt (B b) := by unfold atP; rw [decide_eq_true (by omega), Bool.true_and]
        have a2 : atP isDg L B b = isDg (B b) := by unfold atP; rw [decide_eq_true (by omega), Bool.true_and]
        rw [a1]
        by_cases c1 : isLt (B b) = true
        · rw [c1, if_neg (show ¬ bI true = 0 by decide), if_pos rfl]
          obtain ⟨M3, x1, x2, x3, x4, x5⟩ := LM_nt81 w2 hh2 k9 (by omega) (L - b) 0 (by omega) FU (FU_big (by omega)) M2 (Sm.rfl _ _ _) (fun _ _ _ => rfl) (by rw [Nat.add_zero]; exact k10) (fun _ => k12) (fun i y1 y2 => by omega)
          rw [Nat.add_zero] at x1 x4 x5
          have x1' : f12_nextToken_b81 M2 86 = _ := x1
          rw [x1']
          refine ⟨_, rfl, by rw [sI_e]; exact (s2.trans x2).uI _ (by decide), fun j hj => ?_, ?_, ?_, ?_, fun z => ?_, fun z => ?_⟩
          · rw [mI_sI, if_neg (fun z => hj.2.2.1 z.2), x3 j hj.2.1 hj.2.2.2]; exact f2 j hj
          · rw [mI_sI, if_neg (by decide)]; exact x4
          · rw [mI_sI, if_pos ⟨rfl, rfl⟩]
            show nI _ = nI (kmm (if enD isLt L B b - b ≤ 6 then 2 else 1))
            split <;> rfl
          · rw [mI_sI, if_neg (by decide), x3 9 (by decide) (by decide)]; exact k9
          · have z' : (if enD isLt L B b - b ≤ 6 then 2 else 1) = 2 := z
            by_cases q : enD isLt L B b - b ≤ 6
            · rw [mI_sI, if_neg (by decide)]
              exact x5 q
            · rw [if_neg q] at z'
              cases z'
          · have z' : (if enD isLt L B b - b ≤ 6 then 2 else 1) = 3 := z
            split at z' <;> cases z'
        · rw [if_neg c1]
          rw [Bool.not_eq_true] at c1
          rw [c1, if_pos (show bI false = 0 from rfl), SM_isDigit hh2, cI_some, a2]
          by_cases c2 : isDg (B b) = true
          · rw [c2, if_neg (show ¬ bI true = 0 by decide), if_pos rfl]
            obtain ⟨M3, x1, x2, x3, x4, x5⟩ := LM_nt182 w2 hh2 k9 (by omega) (L - b) 0 (by omega) FU (FU_big (by omega)) M2 (Sm.rfl _ _ _) (fun _ _ _ => rfl) (by rw [Nat.add_zero]; exact k10) (fun _ => k12) (fun i y1 y2 => by omega)
            rw [Nat.add_zero] at x1 x4 x5
            have x1' : f12_nextToken_b182 M2 86 = _ := x1
            rw [x1']
            refine ⟨_, rfl, by rw [sI_e]; exact (s2.trans x2).uI _ (by decide), fun j hj => ?_, ?_, ?_, ?_, fun z => ?_, fun z => ?_⟩
            · rw [mI_sI, if_neg (fun z => hj.2.2.1 z.2), x3 j hj.2.1 hj.2.2.2]; exact f2 j hj
            · rw [mI_sI, if_neg (by decide)]; exact x4
            · rw [mI_sI, if_pos ⟨rfl, rfl⟩]
              show nI _ = nI (kmm (if enD isDg L B b - b ≤ 3 ∧ atP isLt L B (enD isDg L B b) = false then 3 else 1))
              split <;> rfl
            · rw [mI_sI, if_neg (by decide), x3 9 (by decide) (by decide)]; exact k9
            · have z' : (if enD isDg L B b - b ≤ 3 ∧ atP isLt L B (enD isDg L B b) = false then 3 else 1) = 2 := z
              split at z' <;> cases z'
            · have z' : (if enD isDg L B b - b ≤ 3 ∧ atP isLt L B (enD isDg L B b) = false then 3 else 1) = 3 := z
              by_cases q : enD isDg L B b - b ≤ 3 ∧ atP isLt L B (enD isDg L B b) = false
              · rw [mI_sI, if_neg (by decide)]
                exact x5 q.1
              · rw [if_neg q] at z'
                cases z'
          · rw [if_neg c2]
            rw [Bool.not_eq_true] at c2
            have key := bvm_eq h b 59 (by omega)
            have a3 : atP (fun b => decide (b = 59)) L B b = decide (B b = 59) := by unfold atP; rw [decide_eq_true (by omega), Bool.true_and]
            rw [a3, decide_eq_true_iff] at key
            have w3 : Wl (sI M2 86 10 (nI (b + 1))) := w2
            rw [c2, if_pos (show bI false = 0 from rfl), aO_86 w2, aO_86 w2, k10, nI_1, bM_e]
            have fin : ∀ k : Nat, Sm [86] [] M0 (sI (sI M2 86 10 (nI (b + 1))) 86 11 (nI k)) ∧ (∀ j, tF j → mI (sI (sI M2 86 10 (nI (b + 1))) 86 11 (nI k)) 86 j = mI M0 86 j) ∧ mI (sI (sI M2 86 10 (nI (b + 1))) 86 11 (nI k)) 86 10 = nI (b + 1) ∧ mI (sI (sI M2 86 10 (nI (b + 1))) 86 11 (nI k)) 86 11 = nI k ∧ mI (sI (sI M2 86 10 (nI (b + 1))) 86 11 (nI k)) 86 9 = nI b := fun k => by
              refine ⟨by rw [sI_e, sI_e]; exact (s2.uI _ (by decide)).uI _ (by decide), fun j hj => ?_, ?_, ?_, ?_⟩
              · rw [mI_sI, if_neg (fun z => hj.2.2.1 z.2), mI_sI, if_neg (fun z => hj.2.1 z.2)]; exact f2 j hj
              · rw [mI_sI, if_neg (by decide), mI_sI, if_pos ⟨rfl, rfl⟩]
              · rw [mI_sI, if_pos ⟨rfl, rfl⟩]
              · rw [mI_sI, if_neg (by decide), mI_sI, if_neg (by decide)]; exact k9
            by_cases c3 : B b = 59
            · obtain ⟨m2, m3, m4, m5, m6⟩ := fin 3
              rw [if_pos (show bvA L B b = (59 : Int32) from key.mpr c3), if_pos c3, aO_86 w3, bM_e]
              exact ⟨_, rfl, m2, m3, m4, m5, m6, (fun z => by cases z), (fun z => by cases z)⟩
            · obtain ⟨m2, m3, m4, m5, m6⟩ := fin 4
              rw [if_neg (show ¬ bvA L B b = (59 : Int32) from fun z => c3 (key.mp z)), if_neg c3, aO_86 w3, bM_e]
              exact ⟨_, rfl, m2, m3, m4, m5, m6, (fun z => by cases z), (fun z => by cases z)⟩
theorem SM_nextToken {M : MM} (w : Wl M) (h : TpM M L B) {b : Nat} (hb : b ≤ L) (h1 : mI M 86 10 = nI b) : ∃ M', f12_nextToken M 86 = some M' ∧ Sm [86] [] M M' ∧ (∀ j, tF j → mI M' 86 j = mI M 86 j) ∧ TkM M' (tok L B b) := by
  have L8 := h.2.1
  exact LM_nt0 w h (L - b) b (by omega) FU (FU_big (by omega)) M (Sm.rfl _ _ _) (fun _ _ => rfl) h1
end TOKM2
