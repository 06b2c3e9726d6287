/-! WHAT A STACK COSTS, AT THE REFERENCE -/
theorem gtM_told {M : MM} {T : TG} (hT : TgM M T) {k n g : Nat} (hk : k < tK T) (hn : n ≤ 3) (hg : g < 2 ^ 31) : gtM M (5 + 4 * k + n) g = if n = tN T k then (if tM T k = 1 then nI (5 + 4 * k + n) else -1) else if tN T k ≤ n then -1 else if tG T k n = g then nI (5 + 4 * k + n + 1) else -1 := by
  obtain ⟨-, t2, -, t4⟩ := hT
  obtain ⟨-, -, k3, k4, k5, k6, k7⟩ := t4 k hk
  unfold gtM
  rw [show (5 + 4 * k + n - 5) % 4 = n by omega, show (5 + 4 * k + n - 5) / 4 = k by omega, k3, k5]
  simp only [c_eq (show n < 2 ^ 31 by omega) (show tN T k < 2 ^ 31 by omega), c_le (show tN T k < 2 ^ 31 by omega) (show n < 2 ^ 31 by omega), c_eq1 (show tM T k < 2 ^ 31 by omega)]
  by_cases c : n = tN T k
  · rw [if_pos c, if_pos c]
  · rw [if_neg c, if_neg c]
    by_cases c2 : tN T k ≤ n
    · rw [if_pos c2, if_pos c2]
    · rw [if_neg c2, if_neg c2]
      obtain ⟨q1, q2⟩ := k7 n (by omega)
      rw [q1]
      simp only [c_eq (show tG T k n < 2 ^ 31 by omega) hg]
theorem okD_of {M : MM} {T : TG} (hT : TgM M T) {D : Nat → Nat → Nat → Bool} (hD : ∀ y g x, g < 2 ^ 31 → D y g x = DM M y g x) : ∀ k n g y, g < 2 ^ 31 → k < tK T → n ≤ 3 → y < 21 → (D (5 + 4 * k + n) g y = true ↔ (n = tN T k ∧ tM T k = 1 ∧ y = 5 + 4 * k + n) ∨ (n < tN T k ∧ tG T k n = g ∧ y = 5 + 4 * k + n + 1)) := by
  intro k n g y hg hk hn hy
  have k4 := hT.2.1
  rw [hD _ _ _ hg]
  unfold DM
  rw [decide_eq_true_iff, gtM_told hT hk hn hg]
  by_cases c : n = tN T k
  · rw [if_pos c]
    by_cases c1 : tM T k = 1
    · rw [if_pos c1, nI_eq (by omega) (by omega)]
      omega
    · rw [if_neg c1]
      exact ⟨fun q => absurd q.symm (nI_neM (by omega)), fun q => by omega⟩
  · rw [if_neg c]
    by_cases c2 : tN T k ≤ n
    · rw [if_pos c2]
      exact ⟨fun q => absurd q.symm (nI_neM (by omega)), fun q => by omega⟩
    · rw [if_neg c2]
      by_cases c3 : tG T k n = g
      · rw [if_pos c3, nI_eq (by omega) (by omega)]
        omega
      · rw [if_neg c3]
        exact ⟨fun q => absurd q.symm (nI_neM (by omega)), fun q => by omega⟩
/-- the same with no bound on the sign -/
def DMb (M : MM) (y g x : Nat) : Bool := decide (g < 6) && DM M y g x
theorem okD_M {M : MM} {T : TG} (hT : TgM M T) : okD T (DMb M) := by
  intro k n g y hk hn hy
  unfold DMb
  by_cases c : g < 6
  · have := okD_of hT (D := DM M) (fun _ _ _ _ => rfl) k n g y (by omega) hk hn hy
    rw [decide_eq_true c, Bool.true_and]
    exact this
  · rw [decide_eq_false c, Bool.false_and]
    sorry
