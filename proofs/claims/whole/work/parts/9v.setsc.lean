/-! MACHINES: moves and sets, at the class -/
section SETSC
variable {P : PG} {o : Nat} {E : Nat → Nat}
def acn (n : Nat) (m : Nat → Nat → Nat → Bool) (S g x : Nat) : Nat := bsN (fun y => (List.range x).any fun x' => S.testBit x' && m x' g y) n
theorem acn_s {n : Nat} {m : Nat → Nat → Nat → Bool} {S g x : Nat} : acn n m S g (x + 1) = if S.testBit x = true then acn n m S g x ||| bsN (fun y => m x g y) n else acn n m S g x := by
  have b : ∀ y, (acn n m S g (x + 1)).testBit y = (decide (y < n) && (((List.range x).any fun x' => S.testBit x' && m x' g y) || (S.testBit x && m x g y))) := fun y => by
    unfold acn
    rw [bsN_bit, any_succ]
  have a : ∀ y, (acn n m S g x).testBit y = (decide (y < n) && ((List.range x).any fun x' => S.testBit x' && m x' g y)) := fun y => bsN_bit _ _ _
  refine Nat.eq_of_testBit_eq (fun y => ?_)
  rw [b]
  by_cases c : S.testBit x = true
  · rw [if_pos c, Nat.testBit_or, a, bsN_bit, c, Bool.true_and]
    cases decide (y < n) <;> simp
  · rw [if_neg c, a]
    rw [Bool.not_eq_true] at c
    rw [c, Bool.false_and, Bool.or_false]
theorem acn_0 {n : Nat} {m : Nat → Nat → Nat → Bool} {S g : Nat} : acn n m S g 0 = 0 := Nat.eq_of_testBit_eq (fun y => by
  unfold acn
  rw [bsN_bit, Nat.zero_testBit]
  exact Bool.and_false _)
/-- where nodes go on, as the class keeps it -/
def MV (M : MM) (P : PG) (E : Nat → Nat) : Prop := ∀ x g, x < 15 → g < pG P → mI M 63 (6 * x + g) = nI (bsN (fun y => mC E x g y) 15)
theorem MV.sm {M M' : MM} (h : MV M P E) {Is Js : List Nat} (s : Sm Is Js M M') (hi : 63 ∉ Is) : MV M' P E := by
  unfold MV at *
  rw [s.i 63 hi]
  exact h
theorem and32 {a : Nat} (h : a < 2 ^ 15) : (nI a &&& 32 = 0) ↔ a.testBit 5 = false := by
  rw [show (32 : Int32) = nI 32 from rfl, nI_and, show (0 : Int32) = nI 0 from rfl]
  have lt : a &&& 32 < 2 ^ 15 := Nat.and_lt_two_pow a (by decide)
  rw [nI_eq (by omega) (by omega)]
  have e : ∀ y, (a &&& 32).testBit y = (a.testBit y && decide (5 = y)) := fun y => by
    rw [Nat.testBit_and, show (32 : Nat) = 2 ^ 5 from rfl, Nat.testBit_two_pow]
  constructor
  · intro q
    have := e 5
    rw [q, Nat.zero_testBit] at this
    simpa using this.symm
  · intro q
    refine Nat.eq_of_testBit_eq (fun y => ?_)
    rw [e, Nat.zero_testBit]
    by_cases c : 5 = y
    · rw [← c, q]
      rfl
    · rw [decide_eq_false c, Bool.and_false]
theorem L5_sb5 {M : MM} (w : Wl M) (hp : WP P) (mv : MV M P E) {S g : Nat} (hS : S < 2 ^ 15) (hg : g < pG P) : ∀ (d x : Nat), x + d = 15 → ∀ f, d < f → LP6 f5_setBehind_b5_body f M 61 (nI S) (nI g) (nI (acn 15 (mC E) S g x)) (nI x) = some (nI (stC (mC E) S g), M)
  | 0, x, hx, f + 1, _ => by
    have e : x = 15 := by omega
    rw [e, LP6_s]
    generalize LP6 f5_setBehind_b5_body f = K
    unfold f5_setBehind_b5_body
    have ac : acn 15 (mC E) S g 15 = stp 15 (mC E) S g := rfl
    rw [lit_15, if_pos (nI_le (by omega) (by omega)), ac]
    unfold stC
    simp only [and32 (show stp 15 (mC E) S g < 2 ^ 15 from bsN_lt _ _)]
    by_cases c : (stp 15 (mC E) S g).testBit 5 = true
    · rw [if_neg (by rw [c]; decide), if_pos c]
      rfl
    · rw [if_neg c]
      rw [Bool.not_eq_true] at c
      rw [if_pos c]
  | d + 1, x, hx, f + 1, hf => by
    have g6 := hp.2.1
    have ih := L5_sb5 w hp mv hS hg d (x + 1) (by omega) f (by omega)
    have l31 : S < 2 ^ 32 := Nat.lt_trans hS (by decide)
    rw [← ih, LP6_s]
    generalize LP6 f5_setBehind_b5_body f = K
    unfold f5_setBehind_b5_body f5_setBehind_b39
    rw [lit_15, if_neg (nI_ge (by omega) (by omega)), bU l31 (by omega), acn_s]
    simp only [bI_1]
    by_cases c : S.testBit x = true
    · rw [if_pos c, if_pos c, aO_61 w, r_61_0 w, aO_62 w, lit_6, nI_mulN, nI_add, Nat.mul_comm x 6, g_62 w, cI_some, gI_in (by omega) (by omega), mv x g (by omega) hg, nI_or, bW_e, nI_1]
    · rw [if_neg c, if_neg c, nI_1]
theorem S5_setBehind {M : MM} (w : Wl M) (hp : WP P) (mv : MV M P E) {S g : Nat} (hS : S < 2 ^ 15) (hg : g < pG P) : f5_setBehind M 61 (nI S) (nI g) = some (nI (stC (mC E) S g), M) := by
  have q := L5_sb5 w hp mv hS hg 15 0 (by omega) FU (FU_big (by omega))
  rw [acn_0] at q
  exact q
end SETSC
