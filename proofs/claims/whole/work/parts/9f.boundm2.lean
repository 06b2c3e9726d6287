/-! MACHINES: how many sets there are, at the reference (behind) -/
theorem bsN_cg {f g : Nat → Bool} : ∀ n, (∀ k, k < n → f k = g k) → bsN f n = bsN g n
  | 0, _ => rfl
  | n + 1, h => by
    show bsN f n ||| _ = bsN g n ||| _
    rw [bsN_cg n (fun k hk => h k (by omega)), h n (by omega)]
theorem bsN_0 : bsN (fun _ => false) 4 = 0 := rfl
theorem bit_3 : ∀ K, K < 16 → K ≠ 0 → K.testBit 0 = false → K.testBit 1 = false → K.testBit 2 = false → K.testBit 3 = true := by decide +kernel
section BOUNDM2
variable {P : PG} {o : Nat} {T : TG} {F : Nat → Nat}
def RM (P : PG) (T : TG) (F : Nat → Nat) (S : Nat) : Prop := (∃ p, p < 5 ∧ S = 2 ^ p) ∨ (∃ p g, p < 5 ∧ g < pG P ∧ S = stp 21 (mM T F) (2 ^ p) g) ∨ ∃ X g1 g2, VS T X ∧ g1 < pG P ∧ g2 < pG P ∧ S = stp 21 (mM T F) (stp 21 (mM T F) X g1) g2
theorem RM.vs (hT : okT (pG P) T) {E : Nat → Nat} (hS : Sim T E F) {S : Nat} (h : RM P T F S) : VS T S := by
  rcases h with ⟨p, hp, rfl⟩ | ⟨p, g, hp, hg, rfl⟩ | ⟨X, g1, g2, hX, h1, h2, rfl⟩
  · exact VS.one hp
  · exact (VS.one hp).step hT hS hg
  · exact (hX.step hT hS h1).step hT hS h2
theorem RM.step (hT : okT (pG P) T) {E : Nat → Nat} (hS : Sim T E F) {S g : Nat} (h : RM P T F S) (hg : g < pG P) : RM P T F (stp 21 (mM T F) S g) := by
  rcases h with ⟨p, hp, rfl⟩ | ⟨p, g0, hp, h0, rfl⟩ | ⟨X, g1, g2, hX, h1, h2, rfl⟩
  · exact .inr (.inl ⟨p, g, hp, hg, rfl⟩)
  · exact .inr (.inr ⟨2 ^ p, g0, g, VS.one hp, h0, hg, rfl⟩)
  · exact .inr (.inr ⟨stp 21 (mM T F) X g1, g2, g, hX.step hT hS h1, h2, hg, rfl⟩)
def kmX (T : TG) (X g : Nat) : Nat := bsN (fun k => decide (cck T k = g + 1) && X.testBit (5 + 4 * k + 1)) 4
theorem kmX_bit {X g k : Nat} (hk : k < 4) (h : (kmX T X g).testBit k = true) : cck T k = g + 1 := by
  unfold kmX at h
  rw [bsN_bit, decide_eq_true hk, Bool.true_and, Bool.and_eq_true, decide_eq_true_iff] at h
  exact h.1
theorem kmX_gK {X g : Nat} (h0 : kmX T X g ≠ 0) : gK T (kmX T X g) = g := by
  have lt : kmX T X g < 16 := bsN_lt _ 4
  have c : ∀ k, k < 4 → (kmX T X g).testBit k = true → tG T k 1 = g := fun k hk hb => by
    have := kmX_bit hk hb
    unfold cck at this
    split at this <;> omega
  unfold gK
  by_cases b0 : (kmX T X g).testBit 0 = true
  · rw [if_pos b0]
    exact c 0 (by omega) b0
  · rw [if_neg b0]
    by_cases b1 : (kmX T X g).testBit 1 = true
    · rw [if_pos b1]
      exact c 1 (by omega) b1
    · rw [if_neg b1]
      by_cases b2 : (kmX T X g).testBit 2 = true
      · rw [if_pos b2]
        exact c 2 (by omega) b2
      · rw [if_neg b2]
        rw [Bool.not_eq_true] at b0 b1 b2
        exact c 3 (by omega) (bit_3 _ lt h0 b0 b1 b2)
def dec0 (T : TG) (F : Nat → Nat) (c : Nat) : Nat := if c < 5 then 2 ^ c else stp 21 (mM T F) (2 ^ ((c - 5) / 6)) ((c - 5) % 6)
def pairA (T : TG) (A i : Nat) : Nat × Nat := if i < 6 then (i, 0) else (gK T ((vm A).getD (i - 6) 0), (vm A).getD (i - 6) 0)
def dcA (T : TG) (F : Nat → Nat) (A c : Nat) : Nat := if c < 35 then dec0 T F c else decX T F ((c - 35) % 32) (pairA T A ((c - 35) / 512)).1 (pairA T A ((c - 35) / 512)).2 ((c - 35) / 32 % 16)
def dcB (T : TG) (F : Nat → Nat) (gs c : Nat) : Nat := if c < 35 then dec0 T F c else if (c - 35) / 16 < 192 then decX T F (stp 21 (mM T F) ((c - 35) / 16 % 32) ((c - 35) / 16 / 32) % 32) gs (bsN (fun k => (stp 21 (mM T F) ((c - 35) / 16 % 32) ((c - 35) / 16 / 32)).testBit (5 + 4 * k + 1)) 4) ((c - 35) % 16) else decX T F (((c - 35) / 16 - 192) % 32) (((c - 35) / 16 - 192) / 32) 0 ((c - 35) % 16)
theorem RM.decA (hT : okT (pG P) T) {E : Nat → Nat} (hS : Sim T E F) (hn : ¬ ∃ gs, ∀ k, k < 4 → cck T k = gs + 1) : ∃ A, ∀ S, RM P T F S → ∃ c, c < 7203 ∧ S = dcA T F A c := by
  have g6 := hT.1
  obtain ⟨A, hA⟩ : ∃ A, A = bsN (fun k => decide (cck T k = cck T 0)) 4 := ⟨_, rfl⟩
  have bA : ∀ k, k < 4 → A.testBit k = decide (cck T k = cck T 0) := fun k hk => by rw [hA, bsN_bit, decide_eq_true hk, Bool.true_and]
  have lA : A < 16 := by rw [hA]; exact bsN_lt _ 4
  obtain ⟨A', hA', lA', b0', n15⟩ : ∃ A', A' = (if A = 15 then 1 else A) ∧ A' < 16 ∧ A'.testBit 0 = true ∧ A' ≠ 15 := by
    refine ⟨_, rfl, ?_, ?_, ?_⟩
    · split <;> omega
    · split
      · rfl
      · rw [bA 0 (by omega), decide_eq_true rfl]
    · split <;> omega
  have len := vm_len A' lA' b0' n15
  refine ⟨A', fun S h => ?_⟩
  rcases h with ⟨p, hp, rfl⟩ | ⟨p, g, hp, hg, rfl⟩ | ⟨X, g1, g2, hX, h1, h2, rfl⟩
  · refine ⟨p, by omega, ?_⟩
    unfold dcA dec0
    rw [if_pos (by omega), if_pos hp]
  · refine ⟨5 + 6 * p + g, by omega, ?_⟩
    unfold dcA dec0
    rw [if_pos (by omega), if_neg (by omega), show (5 + 6 * p + g - 5) / 6 = p by omega, show (5 + 6 * p + g - 5) % 6 = g by omega]
  · have e := RM_two (F := F) hT (hX.step hT hS h1) h2
    obtain ⟨Q, hQ⟩ : ∃ Q, Q = stp 21 (mM T F) X g1 % 32 := ⟨_, rfl⟩
    obtain ⟨Z, hZ⟩ : ∃ Z, Z = bsN (fun k => decide (k < tK T) && (stp 21 (mM T F) (stp 21 (mM T F) X g1) g2).testBit (5 + 4 * k + tN T k)) 4 := ⟨_, rfl⟩
    have q32 : Q < 32 := by rw [hQ]; exact Nat.mod_lt _ (by omega)
    have z16 : Z < 16 := by rw [hZ]; exact bsN_lt _ 4
    have e' : stp 21 (mM T F) (stp 21 (mM T F) X g1) g2 = decX T F Q g2 (kmX T (stp 21 (mM T F) X g1) g2) Z := by rw [hQ, hZ]; exact e
    obtain ⟨i, hi, hp⟩ : ∃ i, i < 14 ∧ pairA T A' i = (g2, kmX T (stp 21 (mM T F) X g1) g2) := by
      by_cases k0 : kmX T (stp 21 (mM T F) X g1) g2 = 0
      · refine ⟨g2, by omega, ?_⟩
        unfold pairA
        rw [if_pos (by omega), k0]
      · have kl : kmX T (stp 21 (mM T F) X g1) g2 < 16 := bsN_lt _ 4
        have a15 : A ≠ 15 := fun z => by
          refine hn ⟨g2, fun k hk => ?_⟩
          have all : ∀ k, k < 4 → cck T k = cck T 0 := fun k hk => by
            have := bA k hk
            rw [z] at this
            have b : Nat.testBit 15 k = true := by
              have : ∀ k, k < 4 → Nat.testBit 15 k = true := by decide
              exact this k hk
            rw [b] at this
            exact of_decide_eq_true this.symm
          have some : ∃ k, k < 4 ∧ (kmX T (stp 21 (mM T F) X g1) g2).testBit k = true := by
            refine Classical.byContradiction fun no => k0 (set_eq (n := 4) kl (by decide) (fun y hy => ?_))
            rw [Nat.zero_testBit, ← Bool.not_eq_true]
            exact fun z => no ⟨y, hy, z⟩
          obtain ⟨k', hk', hb⟩ := some
          rw [all k hk, ← all k' hk']
          exact kmX_bit hk' hb
        rw [if_neg a15] at hA'
        have mem : kmX T (stp 21 (mM T F) X g1) g2 ∈ vm A' := by
          refine vm_in lA' kl k0 ?_
          rw [hA']
          by_cases c : cck T 0 = g2 + 1
          · exact .inl (fun k hk hb => by rw [bA k hk, decide_eq_true_iff, kmX_bit hk hb, c])
          · exact .inr (fun k hk hb => by rw [bA k hk, decide_eq_false_iff_not, kmX_bit hk hb]; exact fun z => c z.symm)
        obtain ⟨j, hj, ej⟩ := List.getElem_of_mem mem
        refine ⟨6 + j, by omega, ?_⟩
        unfold pairA
        have gd : (vm A').getD j 0 = kmX T (stp 21 (mM T F) X g1) g2 := by
          rw [← ej]
          simp [List.getD, hj]
        rw [if_neg (by omega), show 6 + j - 6 = j by omega, gd, kmX_gK k0]
    refine ⟨35 + Q + 32 * Z + 512 * i, by omega, ?_⟩
    unfold dcA
    rw [if_neg (by omega), show (35 + Q + 32 * Z + 512 * i - 35) % 32 = Q by omega, show (35 + Q + 32 * Z + 512 * i - 35) / 512 = i by omega, show (35 + Q + 32 * Z + 512 * i - 35) / 32 % 16 = Z by omega, hp]
    exact e'
theorem RM.decB (hT : okT (pG P) T) {E : Nat → Nat} (hS : Sim T E F) {gs : Nat} (hn : ∀ k, k < 4 → cck T k = gs + 1) : ∀ S, RM P T F S → ∃ c, c < 6179 ∧ S = dcB T F gs c := by
  have g6 := hT.1
  intro S h
  rcases h with ⟨p, hp, rfl⟩ | ⟨p, g, hp, hg, rfl⟩ | ⟨X, g1, g2, hX, h1, h2, rfl⟩
  · refine ⟨p, by omega, ?_⟩
    unfold dcB dec0
    rw [if_pos (by omega), if_pos hp]
  · refine ⟨5 + 6 * p + g, by omega, ?_⟩
    unfold dcB dec0
    rw [if_pos (by omega), if_neg (by omega), show (5 + 6 * p + g - 5) / 6 = p by omega, show (5 + 6 * p + g - 5) % 6 = g by omega]
  · have e := RM_two (F := F) hT (hX.step hT hS h1) h2
    obtain ⟨Z, hZ⟩ : ∃ Z, Z = bsN (fun k => decide (k < tK T) && (stp 21 (mM T F) (stp 21 (mM T F) X g1) g2).testBit (5 + 4 * k + tN T k)) 4 := ⟨_, rfl⟩
    have z16 : Z < 16 := by rw [hZ]; exact bsN_lt _ 4
    rw [← hZ] at e
    by_cases c : g2 = gs
    · -- what is told by the states two signs ago
      have low : ∀ y, y < 21 → (y < 5 ∨ ∃ k, k < 4 ∧ y = 5 + 4 * k + 1) → (stp 21 (mM T F) X g1).testBit y = (stp 21 (mM T F) (X % 32) g1).testBit y := fun y hy hq => by
        rw [stp_bit hy, stp_bit hy]
        refine Bool.eq_iff_iff.mpr ?_
        rw [any_iff, any_iff]
        refine exists_congr fun x => and_congr_right fun hx => ?_
        rw [Bool.and_eq_true, Bool.and_eq_true, show (32 : Nat) = 2 ^ 5 from rfl, Nat.testBit_mod_two_pow, Bool.and_eq_true, decide_eq_true_iff]
        refine ⟨fun q => ⟨⟨?_, q.1⟩, q.2⟩, fun q => ⟨q.1.2, q.2⟩⟩
        refine Classical.byContradiction fun x5 => ?_
        rcases hX.2 x hx q.1 with v | ⟨k, n, hk, rfl, hn', h0⟩
        · exact x5 v
        · have t3 := (hT.2.2 k hk).2.1
          have cc := hn k (by have := hT.2.1; omega)
          unfold cck at cc
          by_cases cx : k < tK T ∧ tN T k = 3
          · rcases (mM_node hT hk (by omega) hy).mp q.2 with ⟨e1, e2, e3⟩ | ⟨e1, e2, e3⟩
            · rcases hq with hq | ⟨k', hk', hq⟩ <;> omega
            · rcases hq with hq | ⟨k', hk', hq⟩
              · omega
              · have := h0 (by omega)
                omega
          · rw [if_neg cx] at cc
            omega
      have eQ : stp 21 (mM T F) X g1 % 32 = stp 21 (mM T F) (X % 32) g1 % 32 := set_eq (n := 5) (Nat.mod_lt _ (by omega)) (Nat.mod_lt _ (by omega)) (fun y hy => by
        rw [show (32 : Nat) = 2 ^ 5 from rfl, Nat.testBit_mod_two_pow, Nat.testBit_mod_two_pow, decide_eq_true hy, Bool.true_and, Bool.true_and]
        exact low y (by omega) (.inl hy))
      have eK : bsN (fun k => decide (cck T k = g2 + 1) && (stp 21 (mM T F) X g1).testBit (5 + 4 * k + 1)) 4 = bsN (fun k => (stp 21 (mM T F) (X % 32) g1).testBit (5 + 4 * k + 1)) 4 := bsN_cg 4 (fun k hk => by
        rw [decide_eq_true (by rw [hn k hk, c]), Bool.true_and]
        exact low _ (by omega) (.inr ⟨k, hk, rfl⟩))
      rw [eQ, eK, c] at e
      have q := Nat.mod_lt X (show 0 < 32 by omega)
      refine ⟨35 + Z + 16 * (X % 32 + 32 * g1), by omega, ?_⟩
      unfold dcB
      rw [if_neg (by omega), show (35 + Z + 16 * (X % 32 + 32 * g1) - 35) / 16 = X % 32 + 32 * g1 by omega, show (35 + Z + 16 * (X % 32 + 32 * g1) - 35) % 16 = Z by omega, if_pos (by omega), show (X % 32 + 32 * g1) % 32 = X % 32 by omega, show (X % 32 + 32 * g1) / 32 = g1 by omega, c]
      exact e
    · have eK : bsN (fun k => decide (cck T k = g2 + 1) && (stp 21 (mM T F) X g1).testBit (5 + 4 * k + 1)) 4 = 0 := by
        rw [← bsN_0]
        exact bsN_cg 4 (fun k hk => by rw [decide_eq_false (by rw [hn k hk]; omega), Bool.false_and])
      rw [eK] at e
      obtain ⟨Q, hQ⟩ : ∃ Q, Q = stp 21 (mM T F) X g1 % 32 := ⟨_, rfl⟩
      have q32 : Q < 32 := by rw [hQ]; exact Nat.mod_lt _ (by omega)
      rw [← hQ] at e
      refine ⟨35 + Z + 16 * (192 + Q + 32 * g2), by omega, ?_⟩
      unfold dcB
      rw [if_neg (by omega), show (35 + Z + 16 * (192 + Q + 32 * g2) - 35) / 16 = 192 + Q + 32 * g2 by omega, show (35 + Z + 16 * (192 + Q + 32 * g2) - 35) % 16 = Z by omega, if_neg (by omega), show (192 + Q + 32 * g2 - 192) % 32 = Q by omega, show (192 + Q + 32 * g2 - 192) / 32 = g2 by omega]
      exact e
theorem RM_le (hT : okT (pG P) T) {E : Nat → Nat} (hS : Sim T E F) {n : Nat} {S : Nat → Nat} (h : ∀ i, i < n → RM P T F (S i)) (hi : ∀ i j, i < n → j < n → S i = S j → i = j) : n ≤ 7203 := by
  by_cases c : ∃ gs, ∀ k, k < 4 → cck T k = gs + 1
  · obtain ⟨gs, c⟩ := c
    have := dec_le (fun i hin => RM.decB hT hS c _ (h i hin)) hi
    omega
  · obtain ⟨A, hA⟩ := RM.decA hT hS c
    exact dec_le (fun i hin => hA _ (h i hin)) hi
end BOUNDM2
