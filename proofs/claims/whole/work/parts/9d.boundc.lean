/-! MACHINES: how many sets there are, at the class -/
theorem inj_le : ∀ (N n : Nat) (f : Nat → Nat), (∀ i, i < n → f i < N) → (∀ i j, i < n → j < n → f i = f j → i = j) → n ≤ N
  | 0, n, f, h, _ => by
    refine Nat.le_of_not_lt (fun q => ?_)
    exact absurd (h 0 q) (Nat.not_lt_zero _)
  | N + 1, n, f, h, hi => by
    by_cases c : ∃ i, i < n ∧ f i = N
    · obtain ⟨i, hin, e⟩ := c
      have := inj_le N (n - 1) (fun j => f (if j < i then j else j + 1)) (fun j hj => by
        have a := h (if j < i then j else j + 1) (by split <;> omega)
        have b : f (if j < i then j else j + 1) ≠ N := fun z => by
          have := hi _ _ (by split <;> omega) hin (z.trans e.symm)
          split at this <;> omega
        omega) (fun j k hj hk q => by
        have := hi _ _ (by split <;> omega) (by split <;> omega) q
        split at this <;> split at this <;> omega)
      omega
    · have := inj_le N n f (fun i hin => by
        have := h i hin
        have : f i ≠ N := fun z => c ⟨i, hin, z⟩
        omega) hi
      omega
theorem dec_le {N n : Nat} {S dec : Nat → Nat} (h : ∀ i, i < n → ∃ c, c < N ∧ S i = dec c) (hi : ∀ i j, i < n → j < n → S i = S j → i = j) : n ≤ N := by
  refine inj_le N n (fun i => if q : i < n then (h i q).choose else 0) (fun i hin => ?_) (fun i j hin hjn e => ?_)
  · rw [dif_pos hin]
    exact (h i hin).choose_spec.1
  · have e' : (h i hin).choose = (h j hjn).choose := by
      have e2 : (if q : i < n then (h i q).choose else 0) = (if q : j < n then (h j q).choose else 0) := e
      rw [dif_pos hin, dif_pos hjn] at e2
      exact e2
    refine hi i j hin hjn ?_
    rw [(h i hin).choose_spec.2, (h j hjn).choose_spec.2, e']
section BOUNDC
variable {P : PG} {o : Nat} {T : TG}
theorem mC_node (hT : okT (pG P) T) {E R : Nat → Nat} (hE : Std P o T E R) {x g y : Nat} (h5 : 5 ≤ x) (hx : x < 15) (hg : g < 6) (hy : y < 15) (h : mC E x g y = true) : (x = 5 ∧ y = 5) ∨ ∃ k j, k < tK T ∧ 1 ≤ j ∧ j < tN T k ∧ x = 7 + 2 * k + (j - 1) ∧ y = nodeC T k (j + 1) := by
  unfold mC at h
  rw [decide_eq_true_iff, hE.2.2.1 x g y h5 hx hg hy] at h
  have d : allS (pG P) T (ix 15 x g y) = true := by
    cases q : D15 (pG P) T x g y
    · rw [q, if_neg (by decide)] at h
      omega
    · exact q
  have g6 := hT.1
  rcases allS_iff.mp d with ⟨g', h1, h2⟩ | ⟨k, hk, ⟨-, -, g', h1, h2⟩ | ⟨j, h1, h2⟩⟩
  · have := ix_inj5 hg hy (by omega) (by omega) h2
    exact .inl ⟨this.1, this.2.2⟩
  · have := (ix_inj5 hg hy (by omega) (by omega) h2).1
    have := (hT.2.2 k hk).1
    omega
  · have t := hT.2.2 k hk
    have g1 := t.2.2.2 j h1
    have q := ix_inj5 hg hy (by omega) (nodeC_15 hT hk (by omega)) h2
    refine .inr ⟨k, j, hk, ?_, h1, ?_, q.2.2⟩
    · refine Nat.pos_of_ne_zero (fun z => ?_)
      have e := q.1
      rw [z] at e
      have : nodeC T k 0 = tS T k := rfl
      omega
    · have j0 : j ≠ 0 := fun z => by
        have e := q.1
        rw [z] at e
        have : nodeC T k 0 = tS T k := rfl
        omega
      rw [q.1]
      unfold nodeC
      rw [if_neg j0, if_neg (by omega)]
theorem RC_two (hT : okT (pG P) T) {E R : Nat → Nat} (hE : Std P o T E R) {X g1 g2 : Nat} (h1 : g1 < pG P) (h2 : g2 < pG P) : stC (mC E) (stC (mC E) X g1) g2 = 32 ∨ ∃ b, b ≤ 1 ∧ stC (mC E) (stC (mC E) X g1) g2 = stp 15 (mC E) (stp 15 (mC E) (X % 32) g1) g2 ||| 64 * b := by
  have g6 := hT.1
  have five := mC_all hT hE
  by_cases c1 : (stp 15 (mC E) X g1).testBit 5 = true
  · left
    have e : stC (mC E) X g1 = 32 := if_pos c1
    rw [e]
    refine if_pos ?_
    rw [stp_bit (by omega)]
    exact any_in (show 5 < 15 by omega) (by rw [five g2 h2]; rfl)
  · have e : stC (mC E) X g1 = stp 15 (mC E) X g1 := if_neg c1
    rw [e]
    by_cases c2 : (stp 15 (mC E) (stp 15 (mC E) X g1) g2).testBit 5 = true
    · exact .inl (if_pos c2)
    · right
      have e2 : stC (mC E) (stp 15 (mC E) X g1) g2 = stp 15 (mC E) (stp 15 (mC E) X g1) g2 := if_neg c2
      have up : ∀ y, y < 15 → (stp 15 (mC E) (stp 15 (mC E) (X % 32) g1) g2).testBit y = true → (stp 15 (mC E) (stp 15 (mC E) X g1) g2).testBit y = true := fun y hy q => by
        rw [stp_bit hy] at q ⊢
        obtain ⟨x, hx, q⟩ := any_iff.mp q
        rw [Bool.and_eq_true, stp_bit hx] at q
        obtain ⟨x0, hx0, q0⟩ := any_iff.mp q.1
        rw [Bool.and_eq_true, show (32 : Nat) = 2 ^ 5 from rfl, Nat.testBit_mod_two_pow, Bool.and_eq_true] at q0
        refine any_in hx ?_
        rw [stp_bit hx, any_in hx0 (by rw [q0.1.2, q0.2]; rfl), q.2]
        rfl
      have down : ∀ y, y < 15 → y ≠ 6 → (stp 15 (mC E) (stp 15 (mC E) X g1) g2).testBit y = true → (stp 15 (mC E) (stp 15 (mC E) (X % 32) g1) g2).testBit y = true := fun y hy h6 q => by
        have y5 : y ≠ 5 := fun z => c2 (by rw [← z]; exact q)
        rw [stp_bit hy] at q ⊢
        obtain ⟨x, hx, q⟩ := any_iff.mp q
        rw [Bool.and_eq_true, stp_bit hx] at q
        have x5 : x ≠ 5 := fun z => c1 (by rw [← z, stp_bit hx]; exact q.1)
        obtain ⟨x0, hx0, q0⟩ := any_iff.mp q.1
        rw [Bool.and_eq_true] at q0
        by_cases s0 : x0 < 5
        · refine any_in hx ?_
          rw [stp_bit hx, any_in hx0 (by
            rw [show (32 : Nat) = 2 ^ 5 from rfl, Nat.testBit_mod_two_pow, decide_eq_true s0, q0.1, q0.2]
            rfl), q.2]
          rfl
        · exfalso
          rcases mC_node hT hE (by omega) hx0 (by omega) hx q0.2 with ⟨-, z⟩ | ⟨k, j, hk, j1, j2, e1, e3⟩
          · exact x5 z
          · have t3 := (hT.2.2 k hk).2.1
            unfold nodeC at e3
            rw [if_neg (by omega)] at e3
            have xx : x = 6 ∨ x = 7 + 2 * k + 1 := by
              split at e3
              · split at e3
                · exact absurd e3 x5
                · exact .inl e3
              · right
                omega
            rcases mC_node hT hE (show 5 ≤ x by omega) hx (by omega) hy q.2 with ⟨z, -⟩ | ⟨k', j', hk', j1', j2', e1', e3'⟩
            · exact x5 z
            · have t3' := (hT.2.2 k' hk').2.1
              have : j' = 2 := by omega
              unfold nodeC at e3'
              rw [if_neg (by omega), if_pos (by omega)] at e3'
              split at e3' <;> omega
      refine ⟨if (stp 15 (mC E) (stp 15 (mC E) X g1) g2).testBit 6 = true then 1 else 0, by split <;> omega, ?_⟩
      rw [e2]
      refine set_eq (n := 15) (bsN_lt _ _) (Nat.or_lt_two_pow (bsN_lt _ _) (by split <;> decide)) (fun y hy => ?_)
      rw [Nat.testBit_or]
      by_cases y6 : y = 6
      · rw [y6]
        by_cases b : (stp 15 (mC E) (stp 15 (mC E) X g1) g2).testBit 6 = true
        · rw [if_pos b, b, show Nat.testBit (64 * 1) 6 = true from rfl, Bool.or_true]
        · rw [if_neg b]
          rw [Bool.not_eq_true] at b
          rw [b, show Nat.testBit (64 * 0) 6 = false from rfl, Bool.or_false]
          symm
          rw [← Bool.not_eq_true]
          intro z
          rw [up 6 (by omega) z] at b
          cases b
      · have b0 : (64 * (if (stp 15 (mC E) (stp 15 (mC E) X g1) g2).testBit 6 = true then 1 else 0)).testBit y = false := by
          split
          · rw [show 64 * 1 = 2 ^ 6 from rfl, Nat.testBit_two_pow, decide_eq_false (fun z => y6 z.symm)]
          · exact Nat.zero_testBit _
        rw [b0, Bool.or_false]
        exact Bool.eq_iff_iff.mpr ⟨down y hy y6, up y hy⟩
/-- sets that are come to -/
def RC (P : PG) (E : Nat → Nat) (S : Nat) : Prop := (∃ p, p < 5 ∧ S = 2 ^ p) ∨ (∃ p g, p < 5 ∧ g < pG P ∧ S = stC (mC E) (2 ^ p) g) ∨ S = 32 ∨ ∃ X g1 g2, g1 < pG P ∧ g2 < pG P ∧ S = stC (mC E) (stC (mC E) X g1) g2
theorem RC.step (hT : okT (pG P) T) {E R : Nat → Nat} (hE : Std P o T E R) {S g : Nat} (h : RC P E S) (hg : g < pG P) : RC P E (stC (mC E) S g) := by
  rcases h with ⟨p, hp, rfl⟩ | ⟨p, g0, hp, h0, rfl⟩ | rfl | ⟨X, g1, g2, h1, h2, rfl⟩
  · exact .inr (.inl ⟨p, g, hp, hg, rfl⟩)
  · exact .inr (.inr (.inr ⟨2 ^ p, g0, g, h0, hg, rfl⟩))
  · refine .inr (.inr (.inl (if_pos ?_)))
    rw [stp_bit (by omega)]
    exact any_in (show 5 < 15 by omega) (by rw [mC_all hT hE g hg]; rfl)
  · exact .inr (.inr (.inr ⟨stC (mC E) X g1, g2, g, h2, hg, rfl⟩))
theorem RC.lt {E : Nat → Nat} {S : Nat} (h : RC P E S) : S < 2 ^ 15 := by
  rcases h with ⟨p, hp, rfl⟩ | ⟨p, g0, hp, h0, rfl⟩ | rfl | ⟨X, g1, g2, h1, h2, rfl⟩
  · exact Nat.pow_lt_pow_right (by omega) (by omega)
  · exact stC_lt
  · decide
  · exact stC_lt
def decC (E : Nat → Nat) (c : Nat) : Nat := if c < 5 then 2 ^ c else if c < 35 then stC (mC E) (2 ^ ((c - 5) / 6)) ((c - 5) % 6) else if c = 35 then 32 else stp 15 (mC E) (stp 15 (mC E) ((c - 36) % 32) ((c - 36) / 32 % 6)) ((c - 36) / 192 % 6) ||| 64 * ((c - 36) / 1152)
theorem RC.dec (hT : okT (pG P) T) {E R : Nat → Nat} (hE : Std P o T E R) {S : Nat} (h : RC P E S) : ∃ c, c < 2340 ∧ S = decC E c := by
  have g6 := hT.1
  have all : ∃ c, c < 2340 ∧ 32 = decC E c := ⟨35, by omega, rfl⟩
  rcases h with ⟨p, hp, rfl⟩ | ⟨p, g0, hp, h0, rfl⟩ | rfl | ⟨X, g1, g2, h1, h2, rfl⟩
  · exact ⟨p, by omega, (if_pos hp).symm⟩
  · refine ⟨5 + 6 * p + g0, by omega, ?_⟩
    unfold decC
    rw [if_neg (by omega), if_pos (by omega), show (5 + 6 * p + g0 - 5) / 6 = p by omega, show (5 + 6 * p + g0 - 5) % 6 = g0 by omega]
  · exact all
  · rcases RC_two hT hE (X := X) h1 h2 with e | ⟨b, hb, e⟩
    · rw [e]
      exact all
    · have q := Nat.mod_lt X (show 0 < 32 by omega)
      refine ⟨36 + X % 32 + 32 * g1 + 192 * g2 + 1152 * b, by omega, ?_⟩
      rw [e]
      unfold decC
      rw [if_neg (by omega), if_neg (by omega), if_neg (by omega), show (36 + X % 32 + 32 * g1 + 192 * g2 + 1152 * b - 36) % 32 = X % 32 by omega, show (36 + X % 32 + 32 * g1 + 192 * g2 + 1152 * b - 36) / 32 % 6 = g1 by omega, show (36 + X % 32 + 32 * g1 + 192 * g2 + 1152 * b - 36) / 192 % 6 = g2 by omega, show (36 + X % 32 + 32 * g1 + 192 * g2 + 1152 * b - 36) / 1152 = b by omega]
theorem RC_le (hT : okT (pG P) T) {E R : Nat → Nat} (hE : Std P o T E R) {n : Nat} {S : Nat → Nat} (h : ∀ i, i < n → RC P E (S i)) (hi : ∀ i j, i < n → j < n → S i = S j → i = j) : n ≤ 2340 := dec_le (fun i hin => (h i hin).dec hT hE) hi
end BOUNDC
