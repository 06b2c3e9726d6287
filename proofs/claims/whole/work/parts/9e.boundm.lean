/-! MACHINES: how many sets there are, at the reference -/
def cck (T : TG) (k : Nat) : Nat := if k < tK T ∧ tN T k = 3 then tG T k 1 + 1 else 0
def decX (T : TG) (F : Nat → Nat) (Q g K E : Nat) : Nat := bsN (fun y => ((List.range 5).any fun x => Q.testBit x && mM T F x g y) || (decide (5 ≤ y) && ((K.testBit ((y - 5) / 4) && decide ((y - 5) % 4 = 2)) || (E.testBit ((y - 5) / 4) && decide ((y - 5) % 4 = tN T ((y - 5) / 4)))))) 21
def vm (A : Nat) : List Nat := (List.range 16).filter (fun K => K != 0 && (K &&& A == K || K &&& A == 0))
theorem vm_len : ∀ A, A < 16 → A.testBit 0 = true → A ≠ 15 → (vm A).length ≤ 8 := by decide +kernel
theorem vm_in0 : ∀ A, A < 16 → ∀ K, K < 16 → (K == 0 || (!((List.range 4).all (fun k => !K.testBit k || A.testBit k) || (List.range 4).all (fun k => !K.testBit k || !A.testBit k)) || (vm A).any (fun x => x == K))) = true := by decide +kernel
theorem vm_in {A K : Nat} (hA : A < 16) (hK : K < 16) (h0 : K ≠ 0) (h : (∀ k, k < 4 → K.testBit k = true → A.testBit k = true) ∨ (∀ k, k < 4 → K.testBit k = true → A.testBit k = false)) : K ∈ vm A := by
  have q := vm_in0 A hA K hK
  have c : ((List.range 4).all (fun k => !K.testBit k || A.testBit k) || (List.range 4).all (fun k => !K.testBit k || !A.testBit k)) = true := by
    rw [Bool.or_eq_true, List.all_eq_true, List.all_eq_true]
    refine h.imp (fun h k hk => ?_) (fun h k hk => ?_)
    · have := h k (List.mem_range.mp hk)
      cases q : K.testBit k
      · rfl
      · rw [this q]
        rfl
    · have := h k (List.mem_range.mp hk)
      cases q : K.testBit k
      · rfl
      · rw [this q]
        rfl
  rw [c, show (K == 0) = false by simpa using h0, Bool.false_or, Bool.not_true, Bool.false_or, List.any_eq_true] at q
  obtain ⟨x, hx, e⟩ := q
  rw [show x = K by simpa using e] at hx
  exact hx
def gK (T : TG) (K : Nat) : Nat := if K.testBit 0 = true then tG T 0 1 else if K.testBit 1 = true then tG T 1 1 else if K.testBit 2 = true then tG T 2 1 else tG T 3 1
section BOUNDM
variable {P : PG} {o : Nat} {T : TG} {F : Nat → Nat}
theorem mM_node (hT : okT (pG P) T) {k n g y : Nat} (hk : k < tK T) (hn : n ≤ 3) (hy : y < 21) : mM T F (5 + 4 * k + n) g y = true ↔ (n = tN T k ∧ tM T k = 1 ∧ y = 5 + 4 * k + n) ∨ (n < tN T k ∧ tG T k n = g ∧ y = 5 + 4 * k + n + 1) := by
  rw [← okD_T T k n g y hk hn hy]
  unfold mM e21 onw
  rw [if_neg (by omega), if_neg (by omega), decide_eq_true_iff]
  cases DT T (5 + 4 * k + n) g y
  · rw [if_neg (by decide)]
    constructor
    · intro q
      omega
    · intro q
      cases q
  · rw [if_pos rfl]
    exact ⟨fun _ => rfl, fun _ => by unfold FARN; omega⟩
theorem mM_st {E : Nat → Nat} (hS : Sim T E F) {x g y : Nat} (hx : x < 5) (hg : g < 6) (hy : y < 21) (h : mM T F x g y = true) : vld T y := by
  refine Classical.byContradiction fun q => ?_
  unfold mM e21 onw at h
  rw [if_neg (by omega), if_pos hx, decide_eq_true_iff, hS.2.1 x g y hx hg hy q] at h
  omega
def VS (T : TG) (S : Nat) : Prop := S < 2 ^ 21 ∧ ∀ y, y < 21 → S.testBit y = true → vld T y
theorem VS.step (hT : okT (pG P) T) {E : Nat → Nat} (hS : Sim T E F) {S g : Nat} (h : VS T S) (hg : g < pG P) : VS T (stp 21 (mM T F) S g) := by
  have g6 := hT.1
  refine ⟨bsN_lt _ _, fun y hy q => ?_⟩
  rw [stp_bit hy] at q
  obtain ⟨x, hx, q⟩ := any_iff.mp q
  rw [Bool.and_eq_true] at q
  by_cases c : x < 5
  · exact mM_st hS c (by omega) hy q.2
  · rcases h.2 x hx q.1 with v | ⟨k, n, hk, rfl, hn, h0⟩
    · exact absurd v c
    · have t3 := (hT.2.2 k hk).2.1
      rcases (mM_node hT hk (by omega) hy).mp q.2 with ⟨e1, e2, e3⟩ | ⟨e1, e2, e3⟩
      · exact .inr ⟨k, n, hk, e3, hn, h0⟩
      · exact .inr ⟨k, n + 1, hk, by omega, by omega, fun z => by omega⟩
theorem VS.one {p : Nat} (hp : p < 5) : VS T (2 ^ p) := ⟨Nat.pow_lt_pow_right (by omega) (by omega), fun y _ q => by
  rw [Nat.testBit_two_pow, decide_eq_true_iff] at q
  exact .inl (by omega)⟩
/-- what tells a set that is come to by two signs -/
theorem RM_two (hT : okT (pG P) T) {X g : Nat} (h : VS T X) (hg : g < pG P) : stp 21 (mM T F) X g = decX T F (X % 32) g (bsN (fun k => decide (cck T k = g + 1) && X.testBit (5 + 4 * k + 1)) 4) (bsN (fun k => decide (k < tK T) && (stp 21 (mM T F) X g).testBit (5 + 4 * k + tN T k)) 4) := by
  have g6 := hT.1
  have t4 := hT.2.1
  refine set_eq (n := 21) (bsN_lt _ _) (bsN_lt _ _) (fun y hy => ?_)
  unfold decX
  rw [bsN_bit, decide_eq_true hy, Bool.true_and, bsN_bit, bsN_bit]
  refine Bool.eq_iff_iff.mpr ⟨fun q => ?_, fun q => ?_⟩
  · have q0 := q
    rw [stp_bit hy] at q
    obtain ⟨x, hx, q⟩ := any_iff.mp q
    rw [Bool.and_eq_true] at q
    rw [Bool.or_eq_true]
    by_cases c : x < 5
    · left
      refine any_in c ?_
      rw [show (32 : Nat) = 2 ^ 5 from rfl, Nat.testBit_mod_two_pow, decide_eq_true c, q.1, q.2]
      rfl
    · right
      rcases h.2 x hx q.1 with v | ⟨k, n, hk, rfl, hn, h0⟩
      · exact absurd v c
      · have t3 := (hT.2.2 k hk).2.1
        rcases (mM_node hT hk (by omega) hy).mp q.2 with ⟨e1, e2, e3⟩ | ⟨e1, e2, e3⟩
        · rw [e3] at q0
          rw [e3, decide_eq_true (show 5 ≤ 5 + 4 * k + n by omega), Bool.true_and, show (5 + 4 * k + n - 5) / 4 = k by omega, show (5 + 4 * k + n - 5) % 4 = n by omega, ← e1, decide_eq_true (show n = n from rfl), decide_eq_true (show k < 4 by omega), decide_eq_true hk, q0]
          simp
        · rw [e3] at q0
          by_cases e : n + 1 = tN T k
          · rw [e3, decide_eq_true (show 5 ≤ 5 + 4 * k + n + 1 by omega), Bool.true_and, show (5 + 4 * k + n + 1 - 5) / 4 = k by omega, show (5 + 4 * k + n + 1 - 5) % 4 = n + 1 by omega, ← e, decide_eq_true (show n + 1 = n + 1 from rfl), decide_eq_true (show k < 4 by omega), decide_eq_true hk, show 5 + 4 * k + (n + 1) = 5 + 4 * k + n + 1 by omega, q0]
            simp
          · have n1 : n = 1 := by
              have : n ≠ 0 := fun z => by
                have := h0 z
                omega
              omega
            have n3 : tN T k = 3 := by omega
            have cc : cck T k = g + 1 := by
              unfold cck
              rw [if_pos ⟨hk, n3⟩, ← e2, n1]
            have q1 := q.1
            rw [n1] at q1
            rw [e3, n1, decide_eq_true (show 5 ≤ 5 + 4 * k + 1 + 1 by omega), Bool.true_and, show (5 + 4 * k + 1 + 1 - 5) / 4 = k by omega, show (5 + 4 * k + 1 + 1 - 5) % 4 = 2 by omega, decide_eq_true (show 2 = 2 from rfl), decide_eq_true (show k < 4 by omega), decide_eq_true cc, q1]
            simp
  · rw [Bool.or_eq_true] at q
    rcases q with q | q
    · obtain ⟨x, hx, q⟩ := any_iff.mp q
      rw [Bool.and_eq_true, show (32 : Nat) = 2 ^ 5 from rfl, Nat.testBit_mod_two_pow, Bool.and_eq_true] at q
      rw [stp_bit hy]
      exact any_in (show x < 21 by omega) (by rw [q.1.2, q.2]; rfl)
    · simp only [Bool.and_eq_true, Bool.or_eq_true, decide_eq_true_eq] at q
      obtain ⟨y5, ⟨⟨k4, cc, bx⟩, n2⟩ | ⟨⟨k4, kk, bx⟩, n2⟩⟩ := q
      · unfold cck at cc
        by_cases c : (y - 5) / 4 < tK T ∧ tN T ((y - 5) / 4) = 3
        · rw [if_pos c] at cc
          rw [stp_bit hy]
          refine any_in (show 5 + 4 * ((y - 5) / 4) + 1 < 21 by omega) ?_
          rw [bx, Bool.true_and]
          exact (mM_node hT c.1 (by omega) hy).mpr (.inr ⟨by omega, by omega, by omega⟩)
        · rw [if_neg c] at cc
          omega
      · rw [show 5 + 4 * ((y - 5) / 4) + tN T ((y - 5) / 4) = y by omega] at bx
        exact bx
end BOUNDM
