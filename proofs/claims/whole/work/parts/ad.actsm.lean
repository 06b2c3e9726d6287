/-! ACTS: kept and taken back, at the reference -/
section ACTSM
variable {P : PG} {o : Nat} {nw : NW}
def SlNM (row : Nat → Int32) (b : Nat) : NW → Prop
  | none => row b = 0
  | some q => row b = 1 ∧ row (b + 1) = nI q.1 ∧ row (b + 2) = nI q.2.1 ∧ ∀ i, i < q.2.1 → row (b + 4 + i) = nI (q.2.2 i)
def SlM (row : Nat → Int32) (b : Nat) (x : NW × Nat) : Prop := row (b + 3) = nI x.2 ∧ SlNM row b x.1
def ActM (M : MM) (n : Nat) (A : Nat → NW × Nat) : Prop := mI M 86 23 = nI n ∧ n ≤ 12 ∧ ∀ j, j < n → SlM (mI M 94) (44 * j) (A j)
theorem SlM.cg {row row' : Nat → Int32} {b b' : Nat} {x : NW × Nat} (h : SlM row b x) (hx : ∀ q, x.1 = some q → q.2.1 ≤ 40) (e : ∀ i, i < 44 → row' (b' + i) = row (b + i)) : SlM row' b' x := by
  obtain ⟨nw, o⟩ := x
  obtain ⟨h1, h2⟩ := h
  refine ⟨by rw [e 3 (by omega)]; exact h1, ?_⟩
  cases nw with
  | none =>
    show row' b' = 0
    rw [← Nat.add_zero b', e 0 (by omega), Nat.add_zero]
    exact h2
  | some q =>
    have := hx q rfl
    refine ⟨?_, by rw [e 1 (by omega)]; exact h2.2.1, by rw [e 2 (by omega)]; exact h2.2.2.1, fun i hi => ?_⟩
    · rw [← Nat.add_zero b', e 0 (by omega), Nat.add_zero]
      exact h2.1
    · have hi' : i < q.2.1 := hi
      rw [Nat.add_assoc b', e (4 + i) (by omega), ← Nat.add_assoc]
      exact h2.2.2.2 i hi
theorem LM_kp12 {M0 : MM} (w0 : Wl M0) (K50 : MM → Nat → Option MM) : ∀ (d i : Nat), i + d = 528 → 44 ≤ i → ∀ f, d < f → ∀ M, Sm [94] [] M0 M → (∀ x, x + 44 < i → mI M 94 x = mI M0 94 (x + 44)) → (∀ x, i ≤ x + 44 → mI M 94 x = mI M0 94 x) →
    ∃ M', LP3 (f12_keep_b12_body K50) f M 86 (nI i) = K50 (sI M' 86 23 (mI M' 86 23 - 1)) 86 ∧ Sm [94] [] M0 M' ∧ ∀ x, x + 44 < 528 → mI M' 94 x = mI M0 94 (x + 44)
  | 0, i, hi, h44, f + 1, _, M, s, h1, h2 => by
    have w := w0.sm s
    have e : i = 528 := by omega
    rw [e] at h1 ⊢
    refine ⟨M, ?_, s, h1⟩
    rw [LP3_s]
    generalize LP3 (f12_keep_b12_body K50) f = K
    unfold f12_keep_b12_body
    rw [show (528 : Int32) = nI 528 from rfl, if_pos (nI_le (Nat.le_refl _) (by omega)), aO_86 w, aO_86 w, bM_e]
  | d + 1, i, hi, h44, f + 1, hf, M, s, h1, h2 => by
    have w := w0.sm s
    obtain ⟨M1, hM1⟩ : ∃ M1, M1 = uI M 94 (upx (mI M 94) (i - 44) (mI M 94 i)) := ⟨_, rfl⟩
    obtain ⟨M', k1, k2⟩ := LM_kp12 w0 K50 d (i + 1) (by omega) (by omega) f (by omega) M1 (by rw [hM1]; exact s.uI _ (by decide)) (fun x hx => by
      rw [hM1, mI_uI, if_pos rfl, upx_e]
      by_cases e : x = i - 44
      · rw [if_pos e, e, h2 i (by omega), show i - 44 + 44 = i by omega]
      · rw [if_neg e]
        exact h1 x (by omega)) (fun x hx => by
      rw [hM1, mI_uI, if_pos rfl, upx_e, if_neg (by omega)]
      exact h2 x (by omega))
    refine ⟨M', ?_, k2⟩
    rw [← k1, LP3_s]
    generalize LP3 (f12_keep_b12_body K50) f = K
    unfold f12_keep_b12_body
    rw [show (528 : Int32) = nI 528 from rfl, if_neg (nI_ge (by omega) (by omega)), aO_86 w, aO_86 w, r_86_22 w, aA_94 w (by omega), show (44 : Int32) = nI 44 from rfl, nI_subN (by omega), aA_94 w (by omega), bM_e, sI_e, nI_clamp (by omega), nI_clamp (by omega), ← hM1, nI_1]
theorem LM_kp114 {M0 : MM} (w0 : Wl M0) {b : Nat} (hb : b + 44 ≤ 528) : ∀ (d i : Nat), i + d = 40 → ∀ f, d < f → ∀ M, Sm [94] [] M0 M → (∀ k, k < i → mI M 94 (b + 4 + k) = mI M0 92 k) → (∀ x, (x < b + 4 ∨ b + 44 ≤ x) → mI M 94 x = mI M0 94 x) →
    ∃ M', LP4 f12_keep_b114_body f M 86 (nI b) (nI i) = some (sI M' 86 23 (mI M' 86 23 + 1)) ∧ Sm [94] [] M0 M' ∧ (∀ k, k < 40 → mI M' 94 (b + 4 + k) = mI M0 92 k) ∧ ∀ x, (x < b + 4 ∨ b + 44 ≤ x) → mI M' 94 x = mI M0 94 x
  | 0, i, hi, f + 1, _, M, s, hk, hu => by
    have w := w0.sm s
    have e : i = 40 := by omega
    rw [e] at hk ⊢
    refine ⟨M, ?_, s, hk, hu⟩
    rw [LP4_s]
    generalize LP4 f12_keep_b114_body f = K
    unfold f12_keep_b114_body
    rw [show (40 : Int32) = nI 40 from rfl, if_pos (nI_le (Nat.le_refl _) (by omega)), aO_86 w, aO_86 w, bM_e]
  | d + 1, i, hi, f + 1, hf, M, s, hk, hu => by
    have w := w0.sm s
    obtain ⟨M1, hM1⟩ : ∃ M1, M1 = uI M 94 (upx (mI M 94) (b + 4 + i) (mI M 92 i)) := ⟨_, rfl⟩
    obtain ⟨M', k1, k2⟩ := LM_kp114 w0 hb d (i + 1) (by omega) f (by omega) M1 (by rw [hM1]; exact s.uI _ (by decide)) (fun k hk' => by
      rw [hM1, mI_uI, if_pos rfl, upx_e]
      by_cases e : k = i
      · rw [if_pos (by omega), e, s.i 92 (by decide)]
      · rw [if_neg (by omega)]
        exact hk k (by omega)) (fun x hx => by
      rw [hM1, mI_uI, if_pos rfl, upx_e, if_neg (by omega)]
      exact hu x hx)
    refine ⟨M', ?_, k2⟩
    rw [← k1, LP4_s]
    generalize LP4 f12_keep_b114_body f = K
    unfold f12_keep_b114_body
    rw [show (40 : Int32) = nI 40 from rfl, if_neg (nI_ge (by omega) (by omega)), aO_86 w, aO_86 w, r_86_17 w, aA_92 w (by omega), r_86_22 w, lit_4, nI_add, nI_add, aA_94 w (by omega), bM_e, sI_e, nI_clamp (by omega), nI_clamp (by omega), ← hM1, nI_1]
theorem LM_kp50 {M : MM} (w : Wl M) (hh : HereM M nw) (hw : WN P nw) (h5 : mI M 86 5 = nI o) {n : Nat} (h23 : mI M 86 23 = nI n) (hn : n < 12) : ∃ M', f12_keep_b50 M 86 = some M' ∧ Sm [86, 94] [] M M' ∧ (∀ j, j ≠ 23 → mI M' 86 j = mI M 86 j) ∧ mI M' 86 23 = nI (n + 1) ∧ SlM (mI M' 94) (44 * n) (nw, o) ∧ ∀ x, x < 44 * n → mI M' 94 x = mI M 94 x := by
  obtain ⟨b, hb⟩ : ∃ b, b = 44 * n := ⟨_, rfl⟩
  have b16 : b + 44 ≤ 528 := by omega
  rw [← hb]
  have hn' : mI M 86 19 = 0 ∨ mI M 86 19 = 1 := by
    cases nw with
    | none => exact .inl hh
    | some q => exact .inr hh.1
  obtain ⟨M1, hM1⟩ : ∃ M1, M1 = uI M 94 (upx (mI M 94) b (mI M 86 19)) := ⟨_, rfl⟩
  have s1 : Sm [94] [] M M1 := by rw [hM1]; exact (Sm.rfl _ _ M).uI _ (by decide)
  have w1 := w.sm s1
  obtain ⟨M2, hM2⟩ : ∃ M2, M2 = uI M1 94 (upx (mI M1 94) (b + 1) (mI M 86 20)) := ⟨_, rfl⟩
  have s2 : Sm [94] [] M M2 := by rw [hM2]; exact s1.uI _ (by decide)
  have w2 := w.sm s2
  obtain ⟨M3, hM3⟩ : ∃ M3, M3 = uI M2 94 (upx (mI M2 94) (b + 2) (mI M 86 21)) := ⟨_, rfl⟩
  have s3 : Sm [94] [] M M3 := by rw [hM3]; exact s2.uI _ (by decide)
  have w3 := w.sm s3
  obtain ⟨M4, hM4⟩ : ∃ M4, M4 = uI M3 94 (upx (mI M3 94) (b + 3) (nI o)) := ⟨_, rfl⟩
  have s4 : Sm [94] [] M M4 := by rw [hM4]; exact s3.uI _ (by decide)
  have w4 := w.sm s4
  have r4 : mI M4 94 = upx (upx (upx (upx (mI M 94) b (mI M 86 19)) (b + 1) (mI M 86 20)) (b + 2) (mI M 86 21)) (b + 3) (nI o) := by
    rw [hM4, mI_uI, if_pos rfl, hM3, mI_uI, if_pos rfl, hM2, mI_uI, if_pos rfl, hM1, mI_uI, if_pos rfl]
  obtain ⟨M5, k1, k2, k3, k4⟩ := LM_kp114 w4 b16 40 0 (by omega) FU (FU_big (by omega)) M4 (Sm.rfl _ _ _) (fun k hk => absurd hk (Nat.not_lt_zero _)) (fun _ _ => rfl)
  have s5 := s4.trans k2
  have c5 : mI M5 86 = mI M 86 := s5.i 86 (by decide)
  have lo : ∀ x, x < b + 4 → mI M5 94 x = upx (upx (upx (upx (mI M 94) b (mI M 86 19)) (b + 1) (mI M 86 20)) (b + 2) (mI M 86 21)) (b + 3) (nI o) x := fun x hx => by rw [k4 x (.inl hx), r4]
  have body : ∀ x : Int32, uI M 94 (upx (mI M 94) b x) = M1 → f12_keep_b75 M 86 (nI b) x (nI b) 94 = some (sI M5 86 23 (mI M5 86 23 + 1)) := fun x hx => by
    unfold f12_keep_b75
    rw [aA_94 w (by omega), bM_e, sI_e, nI_clamp (by omega), hx]
    rw [aO_86 w1, aO_86 w1, r_86_22 w1, nI_1, aA_94 w1 (by omega), bM_e, sI_e, nI_clamp (by omega), s1.i 86 (by decide), ← hM2]
    rw [aO_86 w2, aO_86 w2, r_86_22 w2, lit_2, nI_add, aA_94 w2 (by omega), bM_e, sI_e, nI_clamp (by omega), s2.i 86 (by decide), ← hM3]
    rw [aO_86 w3, aO_86 w3, r_86_22 w3, lit_3, nI_add, aA_94 w3 (by omega), bM_e, sI_e, nI_clamp (by omega), s3.i 86 (by decide), h5, ← hM4]
    exact k1
  refine ⟨sI M5 86 23 (mI M5 86 23 + 1), ?_, ?_, fun j hj => ?_, ?_, ?_, ?_⟩
  · unfold f12_keep_b50
    rw [aO_86 w, h23, show (44 : Int32) = nI 44 from rfl, nI_mulN, ← hb, bW_e, aO_86 w, aO_86 w, r_86_22 w]
    rcases hn' with z | z
    · rw [if_pos z]
      exact body 0 (by rw [hM1, z])
    · rw [if_neg (by rw [z]; decide)]
      exact body 1 (by rw [hM1, z])
  · rw [sI_e]
    exact (s5.more (by decide) (by decide)).uI _ (by decide)
  · rw [mI_sI, if_neg (fun z => hj z.2), c5]
  · rw [mI_sI, if_pos ⟨rfl, rfl⟩, c5, h23, nI_1]
  · rw [sI_e, mI_uI, if_neg (by decide)]
    have l0 : mI M5 94 b = mI M 86 19 := by rw [lo _ (by omega), upx_e, if_neg (by omega), upx_e, if_neg (by omega), upx_e, if_neg (by omega), upx_e, if_pos rfl]
    have l1 : mI M5 94 (b + 1) = mI M 86 20 := by rw [lo _ (by omega), upx_e, if_neg (by omega), upx_e, if_neg (by omega), upx_e, if_pos rfl]
    have l2 : mI M5 94 (b + 2) = mI M 86 21 := by rw [lo _ (by omega), upx_e, if_neg (by omega), upx_e, if_pos rfl]
    refine ⟨by rw [lo _ (by omega), upx_e, if_pos rfl], ?_⟩
    cases nw with
    | none => exact l0.trans hh
    | some q =>
      have := hw.2.1
      refine ⟨l0.trans hh.1, l1.trans hh.2.1, l2.trans hh.2.2.1, fun i hi => ?_⟩
      have hi' : i < q.2.1 := hi
      have h40 : q.2.1 ≤ 40 := this
      rw [k3 i (by omega), s4.i 92 (by decide)]
      exact hh.2.2.2 i hi
  · intro x hx
    rw [sI_e, mI_uI, if_neg (by decide), lo x (by omega), upx_e, if_neg (by omega), upx_e, if_neg (by omega), upx_e, if_neg (by omega), upx_e, if_neg (by omega)]
theorem SM_keep {M : MM} {n : Nat} {A : Nat → NW × Nat} (w : Wl M) (hh : HereM M nw) (hw : WN P nw) (h5 : mI M 86 5 = nI o) (ha : ActM M n A) (hA : ActW P n A) : ∃ M', f12_keep M 86 = some M' ∧ Sm [86, 94] [] M M' ∧ (∀ j, j ≠ 23 → mI M' 86 j = mI M 86 j) ∧ ActM M' (kpN n) (kpA n A (nw, o)) := by
  obtain ⟨a1, a2, a3⟩ := ha
  unfold f12_keep kpN kpA
  rw [aO_86 w, a1]
  simp only [show (12 : Int32) = nI 12 from rfl, c_eq (show n < 2 ^ 31 by omega) (show 12 < 2 ^ 31 by omega)]
  by_cases c : n = 12
  · rw [if_pos c, if_pos c, if_pos c]
    obtain ⟨M1, b1, b2, b3⟩ := LM_kp12 w f12_keep_b50 484 44 (by omega) (by omega) FU (FU_big (by omega)) M (Sm.rfl _ _ _) (fun x hx => by omega) (fun _ _ => rfl)
    obtain ⟨M2, hM2⟩ : ∃ M2, M2 = sI M1 86 23 (nI 11) := ⟨_, rfl⟩
    have s2 : Sm [86, 94] [] M M2 := by rw [hM2, sI_e]; exact (b2.more (by decide) (by decide)).uI _ (by decide)
    have f2 : ∀ j, j ≠ 23 → mI M2 86 j = mI M 86 j := fun j hj => by rw [hM2, mI_sI, if_neg (fun z => hj z.2), b2.i 86 (by decide)]
    have e23 : mI M1 86 23 - 1 = nI 11 := by rw [b2.i 86 (by decide), a1, c, nI_sub1 (by omega)]
    have hh2 : HereM M2 nw := hh.sm s2 (fun j h1 h2 => f2 j (by omega)) (by decide)
    obtain ⟨M3, k1, k2, k3, k4, k5, k6⟩ := LM_kp50 (o := o) (w.sm s2) hh2 hw (by rw [f2 5 (by decide)]; exact h5) (n := 11) (by rw [hM2, mI_sI, if_pos ⟨rfl, rfl⟩]) (by omega)
    refine ⟨M3, ?_, s2.trans k2, fun j hj => (k3 j hj).trans (f2 j hj), k4, by omega, fun j hj => ?_⟩
    · rw [← k1, hM2, ← e23]
      exact b1
    · rw [upx_e]
      by_cases e : j = 11
      · rw [if_pos e, e]
        exact k5
      · rw [if_neg e]
        refine (a3 (j + 1) (by omega)).cg (hA (j + 1) (by omega)).1.le (fun i hi => ?_)
        rw [k6 _ (by omega), hM2, sI_e, mI_uI, if_neg (by decide), b3 _ (by omega), show 44 * j + i + 44 = 44 * (j + 1) + i by omega]
  · rw [if_neg c, if_neg c, if_neg c]
    obtain ⟨M3, k1, k2, k3, k4, k5, k6⟩ := LM_kp50 (o := o) w hh hw h5 a1 (by omega)
    refine ⟨M3, k1, k2, k3, k4, by omega, fun j hj => ?_⟩
    rw [upx_e]
    by_cases e : j = n
    · rw [if_pos e, e]
      exact k5
    · rw [if_neg e]
      exact (a3 j (by omega)).cg (hA j (by omega)).1.le (fun i hi => k6 _ (by omega))
end ACTSM
