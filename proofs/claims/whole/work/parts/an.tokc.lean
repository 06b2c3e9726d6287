/-! THE TAPE: tokens at the class -/
section TOKC
variable {L : Nat} {B : Nat → Nat}
def TpC (M : MM) (L : Nat) (B : Nat → Nat) : Prop := mI M 2 2 = nI L ∧ L ≤ 800 ∧ ∀ i, i < L → mI M 3 i = nI (B i) ∧ B i < 256
def bvA (L : Nat) (B : Nat → Nat) (i : Nat) : Int32 := if i < L then nI (B i) else -1
def TkC (M : MM) (t : TK) : Prop := mI M 2 1 = nI (tkE t) ∧ mI M 2 3 = nI (tkK t) ∧ mI M 2 4 = nI (tkP t) ∧ (tkK t = 2 → mJ M 2 5 = lN (c8 (tkW t))) ∧ (tkK t = 3 → mI M 2 6 = nI (tkV t))
theorem TpC.sm {M M' : MM} (h : TpC M L B) {Is Js : List Nat} (s : Sm Is Js M M') (h2 : mI M' 2 2 = mI M 2 2) (hi : 3 ∉ Is) : TpC M' L B := ⟨h2.trans h.1, h.2.1, fun i q => by rw [s.i 3 hi]; exact h.2.2 i q⟩
theorem S9_byteAt {M : MM} (w : Wl M) (h : TpC M L B) {i : Nat} (hi : i < 2 ^ 31) : f9_byteAt M 2 (nI i) = some (bvA L B i, M) := by
  unfold f9_byteAt bvA
  rw [if_neg (nI_pos hi), aO_2 w, h.1]
  by_cases c : i < L
  · have := h.2.1
    rw [if_neg (nI_ge c (by omega)), if_pos c, aO_2 w, r_2_0 w, aL_e (by rw [k_3 w]), k_3 w, if_neg (show ¬ nI (0, 800).2 ≤ nI i from nI_ge (by show i < 800; omega) (by omega)), aO_2 w, aA_3 w (by omega), nI_clamp hi, (h.2.2 i c).1]
  · rw [if_pos (nI_le (by omega) hi), if_neg c]
theorem bv_lt {M : MM} (h : TpC M L B) (i lo hi : Nat) (hlo : 0 < lo) (hl : lo ≤ 1000) (hh : hi ≤ 1000) : (bvA L B i < nI lo ∨ nI hi < bvA L B i) ↔ atP (fun b => decide (lo ≤ b) && decide (b ≤ hi)) L B i = false := by
  unfold bvA atP
  by_cases c : i < L
  · have b := (h.2.2 i c).2
    rw [if_pos c, decide_eq_true c, Bool.true_and, c_lt (by omega) (by omega), c_lt (by omega) (by omega)]
    rw [Bool.and_eq_false_iff, decide_eq_false_iff_not, decide_eq_false_iff_not]
    omega
  · rw [if_neg c, decide_eq_false c, Bool.false_and]
    refine ⟨fun _ => rfl, fun _ => .inl ?_⟩
    rw [Int32.lt_iff_toInt_lt, nI_toInt (by omega)]
    show (-1 : Int) < lo
    omega
theorem S9_isLetter {M X : MM} (h : TpC M L B) (i : Nat) : f9_isLetter X (bvA L B i) = some (bI (atP isLt L B i), X) := by
  have k := bv_lt h i 97 122 (by omega) (by omega) (by omega)
  have e : (fun b => decide (97 ≤ b) && decide (b ≤ 122)) = isLt := rfl
  rw [e] at k
  unfold f9_isLetter
  rw [show (97 : Int32) = nI 97 from rfl, show (122 : Int32) = nI 122 from rfl]
  by_cases c1 : bvA L B i < nI 97
  · rw [if_pos c1, k.mp (.inl c1)]
    rfl
  · rw [if_neg c1]
    by_cases c2 : nI 122 < bvA L B i
    · rw [if_pos c2, k.mp (.inr c2)]
      rfl
    · rw [if_neg c2]
      cases q : atP isLt L B i with
      | false => exact absurd (k.mpr q) (fun z => by rcases z with z | z; exact c1 z; exact c2 z)
      | true => rfl
theorem S9_isDigit {M X : MM} (h : TpC M L B) (i : Nat) : f9_isDigit X (bvA L B i) = some (bI (atP isDg L B i), X) := by
  have k := bv_lt h i 48 57 (by omega) (by omega) (by omega)
  have e : (fun b => decide (48 ≤ b) && decide (b ≤ 57)) = isDg := rfl
  rw [e] at k
  unfold f9_isDigit
  rw [show (48 : Int32) = nI 48 from rfl, show (57 : Int32) = nI 57 from rfl]
  by_cases c1 : bvA L B i < nI 48
  · rw [if_pos c1, k.mp (.inl c1)]
    rfl
  · rw [if_neg c1]
    by_cases c2 : nI 57 < bvA L B i
    · rw [if_pos c2, k.mp (.inr c2)]
      rfl
    · rw [if_neg c2]
      cases q : atP isDg L B i with
      | false => exact absurd (k.mpr q) (fun z => by rcases z with z | z; exact c1 z; exact c2 z)
      | true => rfl
theorem bv_eq {M : MM} (h : TpC M L B) (i c : Nat) (hc : c ≤ 1000) : (bvA L B i = nI c) ↔ atP (fun b => decide (b = c)) L B i = true := by
  unfold bvA atP
  by_cases q : i < L
  · have b := (h.2.2 i q).2
    rw [if_pos q, decide_eq_true q, Bool.true_and, nI_eq (by omega) (by omega), decide_eq_true_iff]
  · rw [if_neg q, decide_eq_false q, Bool.false_and]
    exact ⟨fun z => absurd z (nI_neM' (by omega)), (fun z => by cases z)⟩
theorem bv_bl {M : MM} (h : TpC M L B) (i : Nat) : (bvA L B i = nI 32 ∨ bvA L B i = nI 10) ↔ atP isBl L B i = true := by
  rw [bv_eq h i 32 (by omega), bv_eq h i 10 (by omega)]
  unfold atP isBl
  cases decide (i < L) <;> simp
theorem S9_isBlank {M X : MM} (h : TpC M L B) (i : Nat) : f9_isBlank X (bvA L B i) = some (bI (atP isBl L B i), X) := by
  have k := bv_bl h i
  unfold f9_isBlank f9_isBlank_b12
  rw [show (32 : Int32) = nI 32 from rfl, show (10 : Int32) = nI 10 from rfl]
  by_cases c1 : bvA L B i = nI 32
  · rw [if_pos c1, k.mp (.inl c1)]
    rfl
  · rw [if_neg c1]
    by_cases c2 : bvA L B i = nI 10
    · rw [if_pos c2, k.mp (.inr c2)]
      rfl
    · rw [if_neg c2]
      cases q : atP isBl L B i with
      | true => exact absurd (k.mpr q) (fun z => by rcases z with z | z; exact c1 z; exact c2 z)
      | false => rfl
theorem shl8 {a b : Nat} (ha : a < 2 ^ 40) (hb : b < 256) : shlL (lN a) (8 : Int32) ||| (nI b).toInt64 = lN (a * 256 + b) := by
  have e1 : (nI b).toInt64 = lN b := nI_l64 (by omega)
  have e2 : shlL (lN a) (8 : Int32) = lN (a * 256) := by
    apply Int64.toBitVec_inj.mp
    show ((lN a) <<< ((8 : Int32).toInt64 &&& 63)).toBitVec = _
    rw [show ((8 : Int32).toInt64 &&& 63) = (8 : Int64) by decide, Int64.toBitVec_shiftLeft, show ((8 : Int64).toBitVec.smod 64) = 8#64 by decide]
    apply BitVec.eq_of_toNat_eq
    rw [BitVec.shiftLeft_eq', BitVec.toNat_shiftLeft]
    show ((Int64.ofNat a).toBitVec.toNat <<< (8#64).toNat) % 2 ^ 64 = (Int64.ofNat (a * 256)).toBitVec.toNat
    rw [Int64.toBitVec_ofNat', Int64.toBitVec_ofNat', BitVec.toNat_ofNat, BitVec.toNat_ofNat, BitVec.toNat_ofNat, show (8 : Nat) % 2 ^ 64 = 8 from rfl, Nat.shiftLeft_eq, Nat.mod_eq_of_lt (show a < 2 ^ 64 by omega), show (2 : Nat) ^ 8 = 256 from rfl]
  rw [e1, e2]
  apply Int64.toBitVec_inj.mp
  apply BitVec.eq_of_toNat_eq
  rw [Int64.toBitVec_or, BitVec.toNat_or]
  show (Int64.ofNat (a * 256)).toBitVec.toNat ||| (Int64.ofNat b).toBitVec.toNat = (Int64.ofNat (a * 256 + b)).toBitVec.toNat
  rw [Int64.toBitVec_ofNat', Int64.toBitVec_ofNat', Int64.toBitVec_ofNat', BitVec.toNat_ofNat, BitVec.toNat_ofNat, BitVec.toNat_ofNat, Nat.mod_eq_of_lt (by omega), Nat.mod_eq_of_lt (by omega), Nat.mod_eq_of_lt (by omega)]
  have := Nat.two_pow_add_eq_or_of_lt (i := 8) (b := b) hb a
  rw [show (2 : Nat) ^ 8 = 256 from rfl, Nat.mul_comm] at this
  exact this.symm
theorem LP2_s {A0 A1 R : Type} (body : (A0 → A1 → Option R) → A0 → A1 → Option R) (n : Nat) : LP2 body (n + 1) = body (LP2 body n) := rfl
theorem L9_tw5 {M0 : MM} (w0 : Wl M0) (h0 : TpC M0 L B) {pl : Nat} (hp : mI M0 2 4 = nI pl) (hpl : pl ≤ L) : ∀ (d n : Nat), pl + n + d = L → ∀ f, d < f → ∀ M, Sm [2] [2] M0 M → (∀ j, j ≠ 1 → mI M 2 j = mI M0 2 j) → mI M 2 1 = nI (pl + n) → (n ≤ 6 → mJ M 2 5 = lN (c8 (wdL B pl n))) → (∀ i, pl ≤ i → i < pl + n → atP isLt L B i = true) →
    ∃ M', LP2 f9_takeWord_b5_body f M 2 = some (sI M' 2 3 (nI (if enD isLt L B (pl + n) - pl ≤ 6 then 2 else 1))) ∧ Sm [2] [2] M0 M' ∧ (∀ j, j ≠ 1 → mI M' 2 j = mI M0 2 j) ∧ mI M' 2 1 = nI (enD isLt L B (pl + n)) ∧ (enD isLt L B (pl + n) - pl ≤ 6 → mJ M' 2 5 = lN (c8 (wdL B pl (enD isLt L B (pl + n) - pl))))
  | d, n, hd, 0, hf, _, _, _, _, _, _ => absurd hf (Nat.not_lt_zero _)
  | d, n, hd, f + 1, hf, M, s, fl, h1, hw, hin => by
    have w := w0.sm s
    have h := h0.sm s (fl 2 (by decide)) (by decide)
    have L8 := h.2.1
    have h4 : mI M 2 4 = nI pl := (fl 4 (by decide)).trans hp
    have b64 : f9_takeWord_b64 M 2 = some (sI M 2 3 (nI (if pl + n - pl ≤ 6 then 2 else 1))) := by
      unfold f9_takeWord_b64
      rw [aO_2 w, aO_2 w, h1, h4, nI_subN (by omega), show (6 : Int32) = nI 6 from rfl]
      simp only [c_lt (show 6 < 2 ^ 31 by omega) (show pl + n - pl < 2 ^ 31 by omega)]
      by_cases c : pl + n - pl ≤ 6
      · rw [if_neg (by omega), if_pos c, aO_2 w, bM_e]
        rfl
      · rw [if_pos (by omega), if_neg c, aO_2 w, bM_e]
        rfl
    by_cases c : atP isLt L B (pl + n) = true
    · obtain ⟨lt, il⟩ := atP_lt c
      have e : enD isLt L B (pl + n) = enD isLt L B (pl + (n + 1)) := by rw [enD_s, if_pos c]; rfl
      have bb := (h.2.2 (pl + n) lt).2
      cases d with
      | zero => omega
      | succ d =>
        obtain ⟨M1, hM1⟩ : ∃ M1, M1 = sJ M 2 5 (shlL (mJ M 2 5) (8 : Int32) ||| (bvA L B (pl + n)).toInt64) := ⟨_, rfl⟩
        have s1 : Sm [2] [2] M0 M1 := by rw [hM1, sJ_e]; exact s.uJ _ (by decide)
        have i1 : mI M1 = mI M := by rw [hM1]; rfl
        have w1 := w0.sm s1
        obtain ⟨M2, hM2⟩ : ∃ M2, M2 = sI M1 2 1 (nI (pl + n + 1)) := ⟨_, rfl⟩
        have s2 : Sm [2] [2] M0 M2 := by rw [hM2, sI_e]; exact s1.uI _ (by decide)
        have f2 : ∀ j, j ≠ 1 → mI M2 2 j = mI M0 2 j := fun j hj => by rw [hM2, mI_sI, if_neg (fun z => hj z.2), i1]; exact fl j hj
        have g2 : mI M2 2 1 = nI (pl + (n + 1)) := by rw [hM2, mI_sI, if_pos ⟨rfl, rfl⟩]; rfl
        have j2 : n + 1 ≤ 6 → mJ M2 2 5 = lN (c8 (wdL B pl (n + 1))) := fun z => by
          have lw := wdL_lt (L := L) (B := B) (pl := pl) (n := n) hin
          have cl := c8_lt lw
          rw [wdL_len] at cl
          have : 256 ^ n ≤ 256 ^ 5 := Nat.pow_le_pow_right (by decide) (by omega)
          have c40 : (256 : Nat) ^ 5 = 2 ^ 40 := by decide
          rw [hM2, show mJ (sI M1 2 1 (nI (pl + n + 1))) = mJ M1 from rfl, hM1, sJ_e, mJ_uJ, if_pos rfl, upx_e, if_pos rfl, hw (by omega)]
          unfold bvA
          rw [if_pos lt, shl8 (by omega) bb]
          rfl
        obtain ⟨M', k1, k2⟩ := L9_tw5 w0 h0 hp hpl d (n + 1) (by omega) f (by omega) M2 s2 f2 g2 j2 (fun i a1 a2 => by
          by_cases q : i = pl + n
          · rw [q]
            exact c
          · exact hin i a1 (by omega))
        rw [e]
        refine ⟨M', ?_, k2⟩
        rw [← k1, LP2_s]
        generalize LP2 f9_takeWord_b5_body f = K
        unfold f9_takeWord_b5_body
        rw [aO_2 w, aO_2 w, h.1, h1, if_neg (nI_ge lt (by omega)), aO_2 w, aO_2 w, S9_byteAt w h (by omega), cI_some, S9_isLetter h, cI_some, c, if_neg (show ¬ bI true = 0 by decide), aO_2 w, aO_2 w, aO_2 w, h1, S9_byteAt w h (by omega), cI_some, aO_2 w, bM_e, ← hM1, aO_2 w1, aO_2 w1, i1, h1, nI_1, bM_e, ← hM2]
    · have e : enD isLt L B (pl + n) = pl + n := by rw [enD_s, if_neg c]
      rw [e]
      refine ⟨M, ?_, s, fl, h1, fun z => ?_⟩
      · rw [LP2_s]
        generalize LP2 f9_takeWord_b5_body f = K
        unfold f9_takeWord_b5_body
        rw [aO_2 w, aO_2 w, h.1, h1]
        by_cases q : nI L ≤ nI (pl + n)
        · rw [if_pos q, b64]
        · rw [Bool.not_eq_true] at c
          rw [if_neg q, aO_2 w, aO_2 w, S9_byteAt w h (by omega), cI_some, S9_isLetter h, cI_some, c, if_pos (show bI false = 0 from rfl), b64]
      · rw [show pl + n - pl = n by omega]
        exact hw (by omega)
end TOKC
