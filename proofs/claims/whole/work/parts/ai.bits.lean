/-! the bits counted -/
section BITC
def bcN (n : Nat) : Nat :=
  let a := n - ((n >>> 1) &&& 1431655765)
  let b := (a &&& 858993459) + ((a >>> 2) &&& 858993459)
  let c := (b + (b >>> 4)) &&& 252645135
  let d := c + (c >>> 8)
  let e := d + (d >>> 16)
  e &&& 63
def bcS (n : Nat) : Nat := n % 2 + n / 2 % 2 + n / 4 % 2 + n / 8 % 2 + n / 16 % 2 + n / 32 % 2 + n / 64 % 2 + n / 128 % 2 + n / 256 % 2 + n / 512 % 2 + n / 1024 % 2 + n / 2048 % 2 + n / 4096 % 2 + n / 8192 % 2
def bcT : Nat → Bool
  | 0 => true
  | k + 1 => Nat.beq (bcN k) (bcS k) && bcT k
theorem bcT_ok : (List.range 128).all (fun a => (List.range 128).all fun b => Nat.beq (bcN (128 * a + b)) (bcS (128 * a + b))) = true := by decide +kernel
theorem bcN_S {n : Nat} (h : n < 2 ^ 14) : bcN n = bcS n := by
  have a := List.all_eq_true.mp bcT_ok (n / 128) (List.mem_range.mpr (by omega))
  have b := List.all_eq_true.mp a (n % 128) (List.mem_range.mpr (Nat.mod_lt _ (by decide)))
  rw [Nat.div_add_mod] at b
  exact Nat.eq_of_beq_eq_true b
theorem bcS_c (n : Nat) : bcS n = cntB n.testBit 14 := by
  have t : ∀ k, (if n.testBit k = true then 1 else 0) = n / 2 ^ k % 2 := fun k => by
    rw [Nat.testBit_eq_decide_div_mod_eq]
    generalize n / 2 ^ k = m
    by_cases c : m % 2 = 1
    · rw [decide_eq_true c, if_pos rfl, c]
    · rw [decide_eq_false c, if_neg (by decide)]
      omega
  unfold bcS
  simp only [cntB, t]
  simp
theorem nI_ushr {a j : Nat} (ha : a < 2 ^ 32) (hj : j < 32) : ushr (nI a) (nI j) = nI (a >>> j) := ushr_nI ha hj
theorem S_bitCount {M : MM} {n : Nat} (h : n < 2 ^ 14) : fJ_bitCount M (nI n) = some (nI (cntB n.testBit 14), M) := by
  have s1 : n >>> 1 ≤ n := by rw [Nat.shiftRight_eq_div_pow]; exact Nat.div_le_self _ _
  have a1 : (n >>> 1) &&& 1431655765 ≤ n := Nat.le_trans Nat.and_le_left s1
  obtain ⟨a, ha⟩ : ∃ a, a = n - ((n >>> 1) &&& 1431655765) := ⟨_, rfl⟩
  have al : a < 2 ^ 14 := by omega
  have a2 : a >>> 2 ≤ a := by rw [Nat.shiftRight_eq_div_pow]; exact Nat.div_le_self _ _
  have b1 : a &&& 858993459 ≤ a := Nat.and_le_left
  have b2 : (a >>> 2) &&& 858993459 ≤ a := Nat.le_trans Nat.and_le_left a2
  obtain ⟨b, hb⟩ : ∃ b, b = (a &&& 858993459) + ((a >>> 2) &&& 858993459) := ⟨_, rfl⟩
  have bl : b < 2 ^ 15 := by omega
  have b4 : b >>> 4 ≤ b := by rw [Nat.shiftRight_eq_div_pow]; exact Nat.div_le_self _ _
  obtain ⟨c, hc⟩ : ∃ c, c = (b + (b >>> 4)) &&& 252645135 := ⟨_, rfl⟩
  have cl : c ≤ b + (b >>> 4) := by rw [hc]; exact Nat.and_le_left
  have c8 : c >>> 8 ≤ c := by rw [Nat.shiftRight_eq_div_pow]; exact Nat.div_le_self _ _
  obtain ⟨d, hd⟩ : ∃ d, d = c + (c >>> 8) := ⟨_, rfl⟩
  have d16 : d >>> 16 ≤ d := by rw [Nat.shiftRight_eq_div_pow]; exact Nat.div_le_self _ _
  have e : bcN n = (d + (d >>> 16)) &&& 63 := by rw [hd, hc, hb, ha]; rfl
  rw [← bcS_c, ← bcN_S h, e]
  unfold fJ_bitCount
  rw [show (1 : Int32) = nI 1 from rfl, show (1431655765 : Int32) = nI 1431655765 from rfl, show (2 : Int32) = nI 2 from rfl, show (858993459 : Int32) = nI 858993459 from rfl, show (4 : Int32) = nI 4 from rfl, show (252645135 : Int32) = nI 252645135 from rfl, show (8 : Int32) = nI 8 from rfl, show (16 : Int32) = nI 16 from rfl, show (63 : Int32) = nI 63 from rfl]
  rw [nI_ushr (by omega) (by decide), nI_and, nI_subN a1, ← ha, bW_e, nI_and, nI_ushr (by omega) (by decide), nI_and, nI_add, ← hb, bW_e, nI_ushr (by omega) (by decide), nI_add, nI_and, ← hc, bW_e, nI_ushr (by omega) (by decide), nI_add, ← hd, bW_e, nI_ushr (by omega) (by decide), nI_add, bW_e, nI_and]
end BITC
