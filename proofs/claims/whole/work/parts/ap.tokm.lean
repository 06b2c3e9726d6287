/-! THE TAPE: tokens at the reference -/
section TOKM
variable {L : Nat} {B : Nat → Nat}
def TpM (M : MM) (L : Nat) (B : Nat → Nat) : Prop := mI M 86 8 = nI L ∧ L ≤ 800 ∧ ∀ i, i < L → mI M 91 i = nI (B i) ∧ B i < 256
def kmm (k : Nat) : Nat := if k = 0 then 0 else if k = 1 then 4 else k - 1
def TkM (M : MM) (t : TK) : Prop := mI M 86 10 = nI (tkE t) ∧ mI M 86 11 = nI (kmm (tkK t)) ∧ mI M 86 9 = nI (tkP t) ∧ (tkK t = 2 → mI M 86 12 = nI (c5 (tkW t))) ∧ (tkK t = 3 → mI M 86 12 = nI (tkV t))
def tF (j : Nat) : Prop := j ≠ 9 ∧ j ≠ 10 ∧ j ≠ 11 ∧ j ≠ 12
theorem TpM.sm {M M' : MM} (h : TpM M L B) {Is Js : List Nat} (s : Sm Is Js M M') (h2 : mI M' 86 8 = mI M 86 8) (hi : 91 ∉ Is) : TpM M' L B := ⟨h2.trans h.1, h.2.1, fun i q => by rw [s.i 91 hi]; exact h.2.2 i q⟩
theorem SM_byteAt {M : MM} (w : Wl M) (h : TpM M L B) {i : Nat} (hi : i < 2 ^ 31) : f12_byteAt M 86 (nI i) = some (bvA L B i, M) := by
  unfold f12_byteAt bvA
  rw [aO_86 w, h.1]
  by_cases c : i < L
  · have := h.2.1
    rw [if_neg (nI_ge c (by omega)), if_pos c, aO_86 w, r_86_6 w, aA_91 w (by omega), nI_clamp hi, (h.2.2 i c).1]
  · rw [if_pos (nI_le (by omega) hi), if_neg c]
theorem bvm_lt {M : MM} (h : TpM M L B) (i lo hi : Nat) (hlo : 0 < lo) (hl : lo ≤ 1000) (hh : hi ≤ 1000) : (bvA L B i < nI lo ∨ nI hi < bvA L B i) ↔ atP (fun b => decide (lo ≤ b) && decide (b ≤ hi)) L B i = false := by
  unfold bvA atP
  by_cases c : i < L
  · have b := (h.2.2 i c).2
    rw [if_pos c, decide_eq_true c, Bool.true_and, c_lt (by omega) (by omega), c_lt (by omega) (by omega)]
    rw [Bool.and_eq_false_iff, decide_eq_false_iff_not, decide_eq_false_iff_not]
    omega
  · rw [if_neg c, decide_eq_false c, Bool.false_and]
    refine ⟨fun _ => rfl, fun _ => .inl ?_⟩
    rw [Int32.lt_iff_toInt_lt, nI_toInt (by omega)]
    show (-1 : Int) < lo
    omega
theorem bvm_eq {M : MM} (h : TpM M L B) (i c : Nat) (hc : c ≤ 1000) : (bvA L B i = nI c) ↔ atP (fun b => decide (b = c)) L B i = true := by
  unfold bvA atP
  by_cases q : i < L
  · have b := (h.2.2 i q).2
    rw [if_pos q, decide_eq_true q, Bool.true_and, nI_eq (by omega) (by omega), decide_eq_true_iff]
  · rw [if_neg q, decide_eq_false q, Bool.false_and]
    exact ⟨fun z => absurd z (nI_neM' (by omega)), (fun z => by cases z)⟩
theorem bvm_bl {M : MM} (h : TpM M L B) (i : Nat) : (bvA L B i = nI 32 ∨ bvA L B i = nI 10) ↔ atP isBl L B i = true := by
  rw [bvm_eq h i 32 (by omega), bvm_eq h i 10 (by omega)]
  unfold atP isBl
  cases decide (i < L) <;> simp
theorem SM_isSmall {M X : MM} (h : TpM M L B) (i : Nat) : f12_isSmall X (bvA L B i) = some (bI (atP isLt L B i), X) := by
  have k := bvm_lt h i 97 122 (by omega) (by omega) (by omega)
  have e : (fun b => decide (97 ≤ b) && decide (b ≤ 122)) = isLt := rfl
  rw [e] at k
  unfold f12_isSmall
  rw [show (97 : Int32) = nI 97 from rfl, show (122 : Int32) = nI 122 from rfl]
  by_cases c1 : bvA L B i < nI 97
  · rw [if_pos c1, k.mp (.inl c1)]
    rfl
  · rw [if_neg c1]
    by_cases c2 : nI 122 < bvA L B i
    · rw [if_pos c2, k.mp (.inr c2)]
      rfl
    · rw [if_neg c2]
      cases q : atP isLt L B i with
      | false => exact absurd (k.mpr q) (fun z => by rcases z with z | z; exact c1 z; exact c2 z)
      | true => rfl
theorem SM_isDigit {M X : MM} (h : TpM M L B) (i : Nat) : f12_isDigit X (bvA L B i) = some (bI (atP isDg L B i), X) := by
  have k := bvm_lt h i 48 57 (by omega) (by omega) (by omega)
  have e : (fun b => decide (48 ≤ b) && decide (b ≤ 57)) = isDg := rfl
  rw [e] at k
  unfold f12_isDigit
  rw [show (48 : Int32) = nI 48 from rfl, show (57 : Int32) = nI 57 from rfl]
  by_cases c1 : bvA L B i < nI 48
  · rw [if_pos c1, k.mp (.inl c1)]
    rfl
  · rw [if_neg c1]
    by_cases c2 : nI 57 < bvA L B i
    · rw [if_pos c2, k.mp (.inr c2)]
      rfl
    · rw [if_neg c2]
      cases q : atP isDg L B i with
      | false => exact absurd (k.mpr q) (fun z => by rcases z with z | z; exact c1 z; exact c2 z)
      | true => rfl
theorem LM_nt81 {M0 : MM} (w0 : Wl M0) (h0 : TpM M0 L B) {pl : Nat} (hp : mI M0 86 9 = nI pl) (hpl : pl ≤ L) : ∀ (d n : Nat), pl + n + d = L → ∀ f, d < f → ∀ M, Sm [86] [] M0 M → (∀ j, j ≠ 10 → j ≠ 12 → mI M 86 j = mI M0 86 j) → mI M 86 10 = nI (pl + n) → (n ≤ 6 → mI M 86 12 = nI (c5 (wdL B pl n))) → (∀ i, pl ≤ i → i < pl + n → atP isLt L B i = true) →
    ∃ M', LP2 f12_nextToken_b81_body f M 86 = some (sI M' 86 11 (nI (if enD isLt L B (pl + n) - pl ≤ 6 then 1 else 4))) ∧ Sm [86] [] M0 M' ∧ (∀ j, j ≠ 10 → j ≠ 12 → mI M' 86 j = mI M0 86 j) ∧ mI M' 86 10 = nI (enD isLt L B (pl + n)) ∧ (enD isLt L B (pl + n) - pl ≤ 6 → mI M' 86 12 = nI (c5 (wdL B pl (enD isLt L B (pl + n) - pl))))
  | d, n, hd, 0, hf, _, _, _, _, _, _ => absurd hf (Nat.not_lt_zero _)
  | d, n, hd, f + 1, hf, M, s, fl, h1, hw, hin => by
    have w := w0.sm s
    have h := h0.sm s (fl 8 (by decide) (by decide)) (by decide)
    have L8 := h.2.1
    have h4 : mI M 86 9 = nI pl := (fl 9 (by decide) (by decide)).trans hp
    by_cases c : atP isLt L B (pl + n) = true
    · obtain ⟨lt, il⟩ := atP_lt c
      have e : enD isLt L B (pl + n) = enD isLt L B (pl + (n + 1)) := by rw [enD_s, if_pos c]; rfl
      unfold isLt at il
      rw [Bool.and_eq_true, decide_eq_true_eq, decide_eq_true_eq] at il
      cases d with
      | zero => omega
      | succ d =>
        obtain ⟨v, hv⟩ : ∃ v : Int32, v = (if 6 ≤ n then -1 else nI (c5 (wdL B pl (n + 1)))) := ⟨_, rfl⟩
        obtain ⟨M2, hM2⟩ : ∃ M2, M2 = sI (sI M 86 12 v) 86 10 (nI (pl + n + 1)) := ⟨_, rfl⟩
        have s2 : Sm [86] [] M0 M2 := by rw [hM2, sI_e, sI_e]; exact (s.uI _ (by decide)).uI _ (by decide)
        have f2 : ∀ j, j ≠ 10 → j ≠ 12 → mI M2 86 j = mI M0 86 j := fun j hj hj2 => by rw [hM2, mI_sI, if_neg (fun z => hj z.2), mI_sI, if_neg (fun z => hj2 z.2)]; exact fl j hj hj2
        have g2 : mI M2 86 10 = nI (pl + (n + 1)) := by rw [hM2, mI_sI, if_pos ⟨rfl, rfl⟩]; rfl
        have j2 : n + 1 ≤ 6 → mI M2 86 12 = nI (c5 (wdL B pl (n + 1))) := fun z => by
          rw [hM2, mI_sI, if_neg (by decide), mI_sI, if_pos ⟨rfl, rfl⟩, hv, if_neg (by omega)]
        obtain ⟨M', k1, k2⟩ := LM_nt81 w0 h0 hp hpl d (n + 1) (by omega) f (by omega) M2 s2 f2 g2 j2 (fun i a1 a2 => by
          by_cases q : i = pl + n
          · rw [q]
            exact c
          · exact hin i a1 (by omega))
        rw [e]
        refine ⟨M', ?_, k2⟩
        have wa : Wl (sI M 86 12 v) := w
        have ea : mI (sI M 86 12 v) 86 10 = nI (pl + n) := by rw [mI_sI, if_neg (by decide)]; exact h1
        rw [← k1, LP2_s]
        generalize LP2 f12_nextToken_b81_body f = K
        unfold f12_nextToken_b81_body f12_nextToken_b133
        rw [aO_86 w, aO_86 w, h1, SM_byteAt w h (by omega), cI_some, SM_isSmall h, cI_some, c, if_neg (show ¬ bI true = 0 by decide), aO_86 w, aO_86 w, h1, h4, nI_subN (by omega), show pl + n - pl = n by omega]
        by_cases q : 6 ≤ n
        · rw [if_pos q] at hv
          rw [if_pos (show (6 : Int32) ≤ nI n by rw [show (6 : Int32) = nI 6 from rfl, c_le (by omega) (by omega)]; exact q), aO_86 w, bM_e, ← hv, aO_86 wa, aO_86 wa, ea, nI_1, bM_e, ← hM2]
        · rw [if_neg q] at hv
          have lw := wdL_lt (L := L) (B := B) (pl := pl) (n := n) hin
          have cl := c5_lt lw
          rw [wdL_len] at cl
          have p32 : 32 ^ n ≤ 32 ^ 5 := Nat.pow_le_pow_right (by decide) (by omega)
          have c25 : (32 : Nat) ^ 5 = 33554432 := by decide
          have val : mI M 86 12 * 32 + bvA L B (pl + n) - 96 = v := by
            rw [hw (by omega), hv]
            unfold bvA
            rw [if_pos lt, show (32 : Int32) = nI 32 from rfl, nI_mulN, nI_add, show (96 : Int32) = nI 96 from rfl, nI_subN (by omega)]
            show nI _ = nI (c5 (wdL B pl n) * 32 + (B (pl + n) - 96))
            congr 1
            omega
          rw [if_neg (show ¬ (6 : Int32) ≤ nI n by rw [show (6 : Int32) = nI 6 from rfl, c_le (by omega) (by omega)]; exact q), aO_86 w, aO_86 w, aO_86 w, SM_byteAt w h (by omega), cI_some, aO_86 w, bM_e, val, aO_86 wa, aO_86 wa, ea, nI_1, bM_e, ← hM2]
    · have e : enD isLt L B (pl + n) = pl + n := by rw [enD_s, if_neg c]
      rw [e]
      refine ⟨M, ?_, s, fl, h1, fun z => ?_⟩
      · rw [Bool.not_eq_true] at c
        rw [LP2_s]
        generalize LP2 f12_nextToken_b81_body f = K
        unfold f12_nextToken_b81_body f12_nextToken_b169
        rw [aO_86 w, aO_86 w, h1, SM_byteAt w h (by omega), cI_some, SM_isSmall h, cI_some, c, if_pos (show bI false = 0 from rfl), aO_86 w, aO_86 w, h1, h4, nI_subN (by omega)]
        by_cases q : pl + n - pl ≤ 6
        · rw [if_pos (show nI (pl + n - pl) ≤ 6 by rw [show (6 : Int32) = nI 6 from rfl, c_le (by omega) (by omega)]; exact q), if_pos q, aO_86 w, bM_e]
          rfl
        · rw [if_neg (show ¬ nI (pl + n - pl) ≤ 6 by rw [show (6 : Int32) = nI 6 from rfl, c_le (by omega) (by omega)]; exact q), if_neg q, aO_86 w, bM_e]
          rfl
      · rw [show pl + n - pl = n by omega]
        exact hw (by omega)
theorem LM_nt182 {M0 : MM} (w0 : Wl M0) (h0 : TpM M0 L B) {pl : Nat} (hp : mI M0 86 9 = nI pl) (hpl : pl ≤ L) : ∀ (d n : Nat), pl + n + d = L → ∀ f, d < f → ∀ M, Sm [86] [] M0 M → (∀ j, j ≠ 10 → j ≠ 12 → mI M 86 j = mI M0 86 j) → mI M 86 10 = nI (pl + n) → (n ≤ 3 → mI M 86 12 = nI (dcN B pl n)) → (∀ i, pl ≤ i → i < pl + n → atP isDg L B i = true) →
    ∃ M', LP2 f12_nextToken_b182_body f M 86 = some (sI M' 86 11 (nI (if enD isDg L B (pl + n) - pl ≤ 3 ∧ atP isLt L B (enD isDg L B (pl + n)) = false then 2 else 4))) ∧ Sm [86] [] M0 M' ∧ (∀ j, j ≠ 10 → j ≠ 12 → mI M' 86 j = mI M0 86 j) ∧ mI M' 86 10 = nI (enD isDg L B (pl + n)) ∧ (enD isDg L B (pl + n) - pl ≤ 3 → mI M' 86 12 = nI (dcN B pl (enD isDg L B (pl + n) - pl)))
  | d, n, hd, 0, hf, _, _, _, _, _, _ => absurd hf (Nat.not_lt_zero _)
  | d, n, hd, f + 1, hf, M, s, fl, h1, hw, hin => by
    have w := w0.sm s
    have h := h0.sm s (fl 8 (by decide) (by decide)) (by decide)
    have L8 := h.2.1
    have h4 : mI M 86 9 = nI pl := (fl 9 (by decide) (by decide)).trans hp
    by_cases c : atP isDg L B (pl + n) = true
    · obtain ⟨lt, il⟩ := atP_lt c
      have e : enD isDg L B (pl + n) = enD isDg L B (pl + (n + 1)) := by rw [enD_s, if_pos c]; rfl
      unfold isDg at il
      rw [Bool.and_eq_true, decide_eq_true_eq, decide_eq_true_eq] at il
      cases d with
      | zero => omega
      | succ d =>
        obtain ⟨v, hv⟩ : ∃ v : Int32, v = (if mI M 86 12 ≤ (9999 : Int32) then mI M 86 12 * 10 + bvA L B (pl + n) - 48 else mI M 86 12) := ⟨_, rfl⟩
        obtain ⟨M2, hM2⟩ : ∃ M2, M2 = sI (sI M 86 12 v) 86 10 (nI (pl + n + 1)) := ⟨_, rfl⟩
        have s2 : Sm [86] [] M0 M2 := by rw [hM2, sI_e, sI_e]; exact (s.uI _ (by decide)).uI _ (by decide)
        have f2 : ∀ j, j ≠ 10 → j ≠ 12 → mI M2 86 j = mI M0 86 j := fun j hj hj2 => by rw [hM2, mI_sI, if_neg (fun z => hj z.2), mI_sI, if_neg (fun z => hj2 z.2)]; exact fl j hj hj2
        have g2 : mI M2 86 10 = nI (pl + (n + 1)) := by rw [hM2, mI_sI, if_pos ⟨rfl, rfl⟩]; rfl
        have j2 : n + 1 ≤ 3 → mI M2 86 12 = nI (dcN B pl (n + 1)) := fun z => by
          have dl := dcN_lt (L := L) (B := B) (pl := pl) (n := n) hin
          have : 10 ^ n ≤ 10 ^ 2 := Nat.pow_le_pow_right (by decide) (by omega)
          have c40 : (10 : Nat) ^ 2 = 100 := by decide
          rw [hM2, mI_sI, if_neg (by decide), mI_sI, if_pos ⟨rfl, rfl⟩, hv, hw (by omega), if_pos (show nI (dcN B pl n) ≤ (9999 : Int32) by rw [show (9999 : Int32) = nI 9999 from rfl, c_le (by omega) (by omega)]; omega)]
          unfold bvA
          rw [if_pos lt, show (10 : Int32) = nI 10 from rfl, nI_mulN, nI_add, show (48 : Int32) = nI 48 from rfl, nI_subN (by omega)]
          show nI _ = nI (dcN B pl n * 10 + (B (pl + n) - 48))
          congr 1
          omega
        obtain ⟨M', k1, k2⟩ := LM_nt182 w0 h0 hp hpl d (n + 1) (by omega) f (by omega) M2 s2 f2 g2 j2 (fun i a1 a2 => by
          by_cases q : i = pl + n
          · rw [q]
            exact c
          · exact hin i a1 (by omega))
        rw [e]
        refine ⟨M', ?_, k2⟩
        have wa : Wl (sI M 86 12 v) := w
        have ea : mI (sI M 86 12 v) 86 10 = nI (pl + n) := by rw [mI_sI, if_neg (by decide)]; exact h1
        rw [← k1, LP2_s]
        generalize LP2 f12_nextToken_b182_body f = K
        unfold f12_nextToken_b182_body f12_nextToken_b233
        rw [aO_86 w, aO_86 w, h1, SM_byteAt w h (by omega), cI_some, SM_isDigit h, cI_some, c, if_neg (show ¬ bI true = 0 by decide), aO_86 w]
        by_cases q : mI M 86 12 ≤ (9999 : Int32)
        · rw [if_pos q] at hv
          rw [if_pos q, aO_86 w, aO_86 w, aO_86 w, h1, SM_byteAt w h (by omega), cI_some, aO_86 w, bM_e, ← hv, aO_86 wa, aO_86 wa, ea, nI_1, bM_e, ← hM2]
        · rw [if_neg q] at hv
          rw [if_neg q, aO_86 w, aO_86 w, bM_e, ← hv, aO_86 wa, aO_86 wa, ea, nI_1, bM_e, ← hM2]
    · have e : enD isDg L B (pl + n) = pl + n := by rw [enD_s, if_neg c]
      rw [e]
      refine ⟨M, ?_, s, fl, h1, fun z => ?_⟩
      · rw [Bool.not_eq_true] at c
        rw [LP2_s]
        generalize LP2 f12_nextToken_b182_body f = K
        unfold f12_nextToken_b182_body f12_nextToken_b277 f12_nextToken_b282
        rw [aO_86 w, aO_86 w, h1, SM_byteAt w h (by omega), cI_some, SM_isDigit h, cI_some, c, if_pos (show bI false = 0 from rfl), aO_86 w, aO_86 w, h1, h4, nI_subN (by omega)]
        by_cases q : nI 3 < nI (pl + n - pl)
        · rw [if_pos (show (3 : Int32) < nI (pl + n - pl) from q), aO_86 w, bM_e]
          rw [c_lt (by omega) (by omega)] at q
          rw [if_neg (fun z => by omega)]
          rfl
        · rw [if_neg (show ¬ (3 : Int32) < nI (pl + n - pl) from q), aO_86 w, aO_86 w, SM_byteAt w h (by omega), cI_some, SM_isSmall h, cI_some]
          rw [c_lt (by omega) (by omega)] at q
          cases t : atP isLt L B (pl + n) with
          | false =>
            rw [if_pos (show bI false = 0 from rfl), if_pos ⟨by omega, rfl⟩, aO_86 w, bM_e]
            rfl
          | true =>
            rw [if_neg (show ¬ bI true = 0 by decide), if_neg (fun z => by cases z.2), aO_86 w, bM_e]
            rfl
      · rw [show pl + n - pl = n by omega]
        exact hw (by omega)
end TOKM
