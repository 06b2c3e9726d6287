/-! BITS AND LITERALS -/
def bt (x : Int32) (i : Nat) : Bool := x.toBitVec.getLsbD i
theorem b_ext {x y : Int32} (h : ∀ i, i < 32 → bt x i = bt y i) : x = y := Int32.toBitVec_inj.mp (BitVec.eq_of_getLsbD_eq (fun i hi => h i hi))
theorem b_or (x y : Int32) (i : Nat) : bt (x ||| y) i = (bt x i || bt y i) := by unfold bt; rw [Int32.toBitVec_or, BitVec.getLsbD_or]
theorem b_and (x y : Int32) (i : Nat) : bt (x &&& y) i = (bt x i && bt y i) := by unfold bt; rw [Int32.toBitVec_and, BitVec.getLsbD_and]
theorem b_xor (x y : Int32) (i : Nat) : bt (x ^^^ y) i = (bt x i ^^ bt y i) := by unfold bt; rw [Int32.toBitVec_xor, BitVec.getLsbD_xor]
theorem b_big {x : Int32} {i : Nat} (h : 32 ≤ i) : bt x i = false := BitVec.getLsbD_of_ge _ _ h
theorem b_255 (i : Nat) : bt 255 i = decide (i < 8) := by
  rcases Nat.lt_or_ge i 32 with h | h
  · exact (by decide +kernel : ∀ i, i < 32 → bt 255 i = decide (i < 8)) i h
  · rw [b_big h, decide_eq_false (by omega)]
theorem b_65535 (i : Nat) : bt 65535 i = decide (i < 16) := by
  rcases Nat.lt_or_ge i 32 with h | h
  · exact (by decide +kernel : ∀ i, i < 32 → bt 65535 i = decide (i < 16)) i h
  · rw [b_big h, decide_eq_false (by omega)]
theorem b_m1 : ∀ i, i < 32 → bt (-1) i = true := by decide +kernel
theorem b_0 (i : Nat) : bt 0 i = false := BitVec.getLsbD_zero
theorem s_l : ∀ n, n < 32 → ((nI n &&& 31).toBitVec.smod 32).toNat = n := by decide +kernel
theorem s_u : ∀ n, n < 32 → (((nI n).toUInt32 &&& Int32.toUInt32 31).toBitVec % 32).toNat = n := by decide +kernel
theorem b_shl (n : Nat) (hn : n < 32) (x : Int32) {i : Nat} (hi : i < 32) : bt (x <<< (nI n &&& 31)) i = (decide (n ≤ i) && bt x (i - n)) := by
  unfold bt
  rw [Int32.toBitVec_shiftLeft]
  show (x.toBitVec <<< ((nI n &&& 31).toBitVec.smod 32).toNat).getLsbD i = _
  rw [s_l n hn, BitVec.getLsbD_shiftLeft]
  rcases Nat.lt_or_ge i n with h | h
  · simp [h, Nat.not_le.mpr h]
  · simp [hi, h, Nat.not_lt.mpr h]
theorem b_ushr (n : Nat) (hn : n < 32) (x : Int32) (i : Nat) : bt ((x.toUInt32 >>> ((nI n).toUInt32 &&& Int32.toUInt32 31)).toInt32) i = bt x (n + i) := by
  show (x.toUInt32 >>> ((nI n).toUInt32 &&& Int32.toUInt32 31)).toBitVec.getLsbD i = x.toUInt32.toBitVec.getLsbD (n + i)
  rw [UInt32.toBitVec_shiftRight]
  show (x.toUInt32.toBitVec >>> (((nI n).toUInt32 &&& Int32.toUInt32 31).toBitVec % 32).toNat).getLsbD i = _
  rw [s_u n hn, BitVec.getLsbD_ushiftRight]
theorem b_sshr (n : Nat) (hn : n < 32) (x : Int32) {i : Nat} (hi : i < 32) : bt (x >>> (nI n &&& 31)) i = if n + i < 32 then bt x (n + i) else bt x 31 := by
  unfold bt
  rw [Int32.toBitVec_shiftRight]
  show (x.toBitVec.sshiftRight ((nI n &&& 31).toBitVec.smod 32).toNat).getLsbD i = _
  rw [s_l n hn, BitVec.getLsbD_sshiftRight, BitVec.msb_eq_getLsbD_last]
  simp [hi]
theorem b_shl8 (x : Int32) {i : Nat} (hi : i < 32) : bt (x <<< ((8 : Int32) &&& 31)) i = (decide (8 ≤ i) && bt x (i - 8)) := b_shl 8 (by omega) x hi
theorem b_shl16 (x : Int32) {i : Nat} (hi : i < 32) : bt (x <<< ((16 : Int32) &&& 31)) i = (decide (16 ≤ i) && bt x (i - 16)) := b_shl 16 (by omega) x hi
theorem b_shl24 (x : Int32) {i : Nat} (hi : i < 32) : bt (x <<< ((24 : Int32) &&& 31)) i = (decide (24 ≤ i) && bt x (i - 24)) := b_shl 24 (by omega) x hi
theorem b_sshr8 (x : Int32) {i : Nat} (hi : i < 32) : bt (x >>> ((8 : Int32) &&& 31)) i = if 8 + i < 32 then bt x (8 + i) else bt x 31 := b_sshr 8 (by omega) x hi
theorem bt_nI (k : Nat) {i : Nat} (hi : i < 32) : bt (nI k) i = k.testBit i := by
  unfold bt
  show (BitVec.ofNat 32 k).getLsbD i = _
  rw [BitVec.getLsbD_ofNat]
  simp [hi]
theorem ushr_nI {k j : Nat} (hk : k < 2 ^ 32) (hj : j < 32) : ushr (nI k) (nI j) = nI (k >>> j) := by
  apply b_ext
  intro i hi
  rw [bt_nI _ hi, Nat.testBit_shiftRight]
  refine (b_ushr j hj (nI k) i).trans ?_
  by_cases h : j + i < 32
  · exact bt_nI k h
  · rw [b_big (by omega), Nat.testBit_lt_two_pow (Nat.lt_of_lt_of_le hk (Nat.pow_le_pow_right (by omega) (by omega)))]
theorem sshr_nI {k j : Nat} (hk : k < 2 ^ 31) (hj : j < 32) : nI k >>> (nI j &&& 31) = nI (k >>> j) := by
  apply b_ext
  intro i hi
  rw [bt_nI _ hi, Nat.testBit_shiftRight, b_sshr j hj (nI k) hi]
  by_cases h : j + i < 32
  · rw [if_pos h]
    exact bt_nI k h
  · rw [if_neg h, bt_nI _ (by omega), Nat.testBit_lt_two_pow hk, Nat.testBit_lt_two_pow (Nat.lt_of_lt_of_le hk (Nat.pow_le_pow_right (by omega) (by omega)))]
theorem nI_and (a b : Nat) : nI a &&& nI b = nI (a &&& b) := by
  apply b_ext
  intro i hi
  rw [b_and, bt_nI _ hi, bt_nI _ hi, bt_nI _ hi, Nat.testBit_and]
theorem nI_or (a b : Nat) : nI a ||| nI b = nI (a ||| b) := by
  apply b_ext
  intro i hi
  rw [b_or, bt_nI _ hi, bt_nI _ hi, bt_nI _ hi, Nat.testBit_or]
theorem nI_xor (a b : Nat) : nI a ^^^ nI b = nI (a ^^^ b) := by
  apply b_ext
  intro i hi
  rw [b_xor, bt_nI _ hi, bt_nI _ hi, bt_nI _ hi, Nat.testBit_xor]
theorem nI_and1 (a : Nat) : nI a &&& 1 = nI (a % 2) := by
  show nI a &&& nI 1 = _
  rw [nI_and, Nat.and_one_is_mod]
theorem shl_nI {j : Nat} (hj : j < 32) : (1 : Int32) <<< (nI j &&& 31) = nI (2 ^ j) := by
  apply b_ext
  intro i hi
  rw [bt_nI _ hi, b_shl j hj _ hi, Nat.testBit_two_pow]
  show (decide (j ≤ i) && bt (nI 1) (i - j)) = _
  rw [bt_nI _ (by omega)]
  by_cases h : j = i
  · subst h
    simp
  · by_cases h2 : j ≤ i
    · have h3 : i - j ≠ 0 := by omega
      simp only [h2, decide_true, Bool.true_and, h, decide_false]
      rcases hh : i - j with _ | n
      · exact absurd hh h3
      · rw [Nat.testBit_lt_two_pow (Nat.lt_of_lt_of_le (by decide : 1 < 2 ^ 1) (Nat.pow_le_pow_right (by omega) (by omega)))]
    · simp [h, h2]
theorem tb_eq (o r : Nat) : (o >>> r) % 2 = if o.testBit r then 1 else 0 := by
  have h := Nat.testBit_eq_decide_div_mod_eq (x := o) (i := r)
  rw [h, Nat.shiftRight_eq_div_pow]
  have : o / 2 ^ r % 2 < 2 := Nat.mod_lt _ (by omega)
  by_cases e : o / 2 ^ r % 2 = 1
  · simp [e]
  · have e0 : o / 2 ^ r % 2 = 0 := by omega
    simp [e0]
theorem bU0 {o r : Nat} (ho : o < 2 ^ 32) (hr : r < 32) : ushr (nI o) (nI r) &&& 1 = if o.testBit r then 1 else 0 := by
  rw [ushr_nI ho hr, nI_and1, tb_eq]
  by_cases h : o.testBit r <;> simp [h] <;> rfl
theorem bS0 {o r : Nat} (ho : o < 2 ^ 31) (hr : r < 32) : (nI o >>> (nI r &&& 31)) &&& 1 = if o.testBit r then 1 else 0 := by
  rw [sshr_nI ho hr, nI_and1, tb_eq]
  by_cases h : o.testBit r <;> simp [h] <;> rfl
/-- a truth as an int -/
def bI (b : Bool) : Int32 := if b then 1 else 0
theorem bI_t : bI true = 1 := rfl
theorem bI_f : bI false = 0 := rfl
theorem bI_0 (b : Bool) : bI b = 0 ↔ b = false := by cases b <;> simp [bI]
theorem bI_1 (b : Bool) : bI b = 1 ↔ b = true := by cases b <;> simp [bI]
theorem bI_gd (b : Bool) : bI b = 0 ∨ bI b = 1 := by cases b <;> simp [bI]
theorem bI_if {c : Prop} [Decidable c] : (if c then (1 : Int32) else 0) = bI (decide c) := by by_cases h : c <;> simp [bI, h]
theorem bI_nI (b : Bool) : bI b = nI b.toNat := by cases b <;> rfl
theorem bU {o r : Nat} (ho : o < 2 ^ 32) (hr : r < 32) : ushr (nI o) (nI r) &&& 1 = bI (o.testBit r) := bU0 ho hr
theorem bS {o r : Nat} (ho : o < 2 ^ 31) (hr : r < 32) : (nI o >>> (nI r &&& 31)) &&& 1 = bI (o.testBit r) := bS0 ho hr
/-! literals -/
theorem lit_2 : (2 : Int32) = nI 2 := rfl
theorem lit_3 : (3 : Int32) = nI 3 := rfl
theorem lit_4 : (4 : Int32) = nI 4 := rfl
theorem lit_5 : (5 : Int32) = nI 5 := rfl
theorem lit_6 : (6 : Int32) = nI 6 := rfl
theorem lit_7 : (7 : Int32) = nI 7 := rfl
theorem lit_8 : (8 : Int32) = nI 8 := rfl
theorem lit_9 : (9 : Int32) = nI 9 := rfl
theorem lit_10 : (10 : Int32) = nI 10 := rfl
theorem lit_12 : (12 : Int32) = nI 12 := rfl
theorem lit_14 : (14 : Int32) = nI 14 := rfl
theorem lit_15 : (15 : Int32) = nI 15 := rfl
theorem lit_16 : (16 : Int32) = nI 16 := rfl
theorem lit_20 : (20 : Int32) = nI 20 := rfl
theorem lit_21 : (21 : Int32) = nI 21 := rfl
theorem lit_24 : (24 : Int32) = nI 24 := rfl
theorem lit_30 : (30 : Int32) = nI 30 := rfl
theorem lit_31 : (31 : Int32) = nI 31 := rfl
theorem lit_32 : (32 : Int32) = nI 32 := rfl
theorem lit_40 : (40 : Int32) = nI 40 := rfl
theorem lit_43 : (43 : Int32) = nI 43 := rfl
theorem lit_44 : (44 : Int32) = nI 44 := rfl
theorem lit_48 : (48 : Int32) = nI 48 := rfl
theorem lit_57 : (57 : Int32) = nI 57 := rfl
theorem lit_59 : (59 : Int32) = nI 59 := rfl
theorem lit_63 : (63 : Int32) = nI 63 := rfl
theorem lit_64 : (64 : Int32) = nI 64 := rfl
theorem lit_90 : (90 : Int32) = nI 90 := rfl
theorem lit_96 : (96 : Int32) = nI 96 := rfl
theorem lit_97 : (97 : Int32) = nI 97 := rfl
theorem lit_98 : (98 : Int32) = nI 98 := rfl
theorem lit_99 : (99 : Int32) = nI 99 := rfl
theorem lit_100 : (100 : Int32) = nI 100 := rfl
theorem lit_122 : (122 : Int32) = nI 122 := rfl
theorem lit_140 : (140 : Int32) = nI 140 := rfl
theorem lit_150 : (150 : Int32) = nI 150 := rfl
theorem lit_196 : (196 : Int32) = nI 196 := rfl
theorem lit_200 : (200 : Int32) = nI 200 := rfl
theorem lit_205 : (205 : Int32) = nI 205 := rfl
theorem lit_255 : (255 : Int32) = nI 255 := rfl
theorem lit_256 : (256 : Int32) = nI 256 := rfl
theorem lit_384 : (384 : Int32) = nI 384 := rfl
theorem lit_451 : (451 : Int32) = nI 451 := rfl
theorem lit_516 : (516 : Int32) = nI 516 := rfl
theorem lit_528 : (528 : Int32) = nI 528 := rfl
theorem lit_630 : (630 : Int32) = nI 630 := rfl
theorem lit_655 : (655 : Int32) = nI 655 := rfl
theorem lit_800 : (800 : Int32) = nI 800 := rfl
theorem lit_900 : (900 : Int32) = nI 900 := rfl
theorem lit_931 : (931 : Int32) = nI 931 := rfl
theorem lit_1000 : (1000 : Int32) = nI 1000 := rfl
theorem lit_1350 : (1350 : Int32) = nI 1350 := rfl
theorem lit_2340 : (2340 : Int32) = nI 2340 := rfl
theorem lit_4200 : (4200 : Int32) = nI 4200 := rfl
theorem lit_8192 : (8192 : Int32) = nI 8192 := rfl
theorem lit_9999 : (9999 : Int32) = nI 9999 := rfl
theorem lit_12345 : (12345 : Int32) = nI 12345 := rfl
theorem lit_16384 : (16384 : Int32) = nI 16384 := rfl
theorem lit_49152 : (49152 : Int32) = nI 49152 := rfl
theorem lit_114292 : (114292 : Int32) = nI 114292 := rfl
theorem lit_244780 : (244780 : Int32) = nI 244780 := rfl
theorem lit_441925 : (441925 : Int32) = nI 441925 := rfl
theorem lit_611717 : (611717 : Int32) = nI 611717 := rfl
theorem lit_632046 : (632046 : Int32) = nI 632046 := rfl
theorem lit_20579973 : (20579973 : Int32) = nI 20579973 := rfl
theorem lit_252645135 : (252645135 : Int32) = nI 252645135 := rfl
theorem lit_858993459 : (858993459 : Int32) = nI 858993459 := rfl
theorem lit_1103515245 : (1103515245 : Int32) = nI 1103515245 := rfl
theorem lit_1431655765 : (1431655765 : Int32) = nI 1431655765 := rfl
theorem lit_0 : (0 : Int32) = nI 0 := rfl
theorem lit_1 : (1 : Int32) = nI 1 := rfl
/-! conditions on natural ints -/
theorem c_lt0 {a : Nat} (h : a < 2 ^ 31) : (nI a < 0) = False := eq_false (nI_pos h)
theorem c_le0 {a : Nat} (h : a < 2 ^ 31) : (nI a ≤ 0) = (a = 0) := by
  rw [eq_iff_iff, lit_0, nI_leI h (by omega)]
  omega
theorem c_0le {a : Nat} (h : a < 2 ^ 31) : (0 ≤ nI a) = True := eq_true (nI_pos' h)
theorem c_0lt {a : Nat} (h : a < 2 ^ 31) : (0 < nI a) = (0 < a) := by
  rw [eq_iff_iff, lit_0, nI_ltI (by omega) h]
theorem c_eq0 {a : Nat} (h : a < 2 ^ 31) : (nI a = 0) = (a = 0) := by
  rw [eq_iff_iff, lit_0, nI_eq h (by omega)]
theorem c_eq1 {a : Nat} (h : a < 2 ^ 31) : (nI a = 1) = (a = 1) := by
  rw [eq_iff_iff, lit_1, nI_eq h (by omega)]
theorem c_1eq {a : Nat} (h : a < 2 ^ 31) : (1 = nI a) = (1 = a) := by
  rw [eq_iff_iff, lit_1, nI_eq (by omega) h]
theorem c_lt1 {a : Nat} (h : a < 2 ^ 31) : (nI a < 1) = (a < 1) := by
  rw [eq_iff_iff, lit_1, nI_ltI h (by omega)]
theorem c_1le {a : Nat} (h : a < 2 ^ 31) : (1 ≤ nI a) = (1 ≤ a) := by
  rw [eq_iff_iff, lit_1, nI_leI (by omega) h]
theorem c_le1 {a : Nat} (h : a < 2 ^ 31) : (nI a ≤ 1) = (a ≤ 1) := by
  rw [eq_iff_iff, lit_1, nI_leI h (by omega)]
theorem c_1lt {a : Nat} (h : a < 2 ^ 31) : (1 < nI a) = (1 < a) := by
  rw [eq_iff_iff, lit_1, nI_ltI (by omega) h]
theorem c_eqM {a : Nat} (h : a < 2 ^ 31) : (nI a = -1) = False := eq_false (nI_neM h)
theorem c_Meq {a : Nat} (h : a < 2 ^ 31) : (-1 = nI a) = False := eq_false (nI_neM' h)
theorem c_leM {a : Nat} (h : a < 2 ^ 31) : (nI a ≤ -1) = False := eq_false (nI_leM h)
theorem c_ltM {a : Nat} (h : a < 2 ^ 31) : (nI a < -1) = False := by
  refine eq_false ?_
  rw [Int32.lt_iff_toInt_lt, nI_toInt h]
  show ¬ (a : Int) < -1
  omega
theorem c_Mlt {a : Nat} (h : a < 2 ^ 31) : (-1 < nI a) = True := by
  refine eq_true ?_
  rw [Int32.lt_iff_toInt_lt, nI_toInt h]
  show (-1 : Int) < a
  omega
theorem c_Mle {a : Nat} (h : a < 2 ^ 31) : (-1 ≤ nI a) = True := by
  refine eq_true ?_
  rw [Int32.le_iff_toInt_le, nI_toInt h]
  show (-1 : Int) ≤ a
  omega
theorem c_le {a b : Nat} (ha : a < 2 ^ 31) (hb : b < 2 ^ 31) : (nI a ≤ nI b) = (a ≤ b) := by rw [eq_iff_iff, nI_leI ha hb]
theorem c_lt {a b : Nat} (ha : a < 2 ^ 31) (hb : b < 2 ^ 31) : (nI a < nI b) = (a < b) := by rw [eq_iff_iff, nI_ltI ha hb]
theorem c_eq {a b : Nat} (ha : a < 2 ^ 31) (hb : b < 2 ^ 31) : (nI a = nI b) = (a = b) := by rw [eq_iff_iff, nI_eq ha hb]
theorem nI_sub1 {a : Nat} (h : 1 ≤ a) : nI a - 1 = nI (a - 1) := nI_subN (a := a) (b := 1) h
theorem nI_m1 {a : Nat} (h : 1 ≤ a) : nI a + -1 = nI (a - 1) := by
  rw [← nI_sub1 h, Int32.sub_eq_add_neg]
theorem nI_01 : nI 0 - 1 = -1 := by decide
theorem nI_0m : nI 0 + -1 = -1 := by decide
theorem nI_M1 : (-1 : Int32) + 1 = nI 0 := by decide
theorem nI_add0 (a : Nat) : nI a + 0 = nI a := nI_add a 0
theorem nI_1add (a : Nat) : 1 + nI a = nI (1 + a) := nI_add 1 a
theorem nI_div {a b : Nat} (ha : a < 2 ^ 31) (hb : b < 2 ^ 31) (hb0 : 0 < b) : nI a / nI b = nI (a / b) := by
  apply Int32.toInt_inj.mp
  have hq : a / b ≤ a := Nat.div_le_self a b
  rw [Int32.toInt_div_of_ne_right, nI_toInt ha, nI_toInt hb, nI_toInt (by omega), Int.ofNat_tdiv]
  intro e
  rw [← Int32.toInt_inj, nI_toInt hb] at e
  have e2 : (b : Int) = -1 := e
  omega
theorem nI_mod {a b : Nat} (ha : a < 2 ^ 31) (hb : b < 2 ^ 31) (hb0 : 0 < b) : nI a - nI a / nI b * nI b = nI (a % b) := by
  have h := Nat.div_add_mod a b
  have h2 : a / b * b ≤ a := Nat.div_mul_le_self a b
  rw [nI_div ha hb hb0, nI_mulN, nI_subN h2]
  congr 1
  rw [Nat.mul_comm] at h2 ⊢
  omega
theorem f_if {α : Sort _} {a b : α} : (if False then a else b) = b := if_neg id
theorem t_if {α : Sort _} {a b : α} : (if True then a else b) = a := if_pos trivial
