/-! MACHINES: the reference's table -/
section BUILDM
variable {P : PG} {o : Nat} {F : Nat → Nat}
def TB (M : MM) (P : PG) (F : Nat → Nat) (n : Nat) (S : Nat → Nat) (i j : Nat) : Prop := (∀ p, p < pS P → p < n ∧ S p = 2 ^ p) ∧ ∀ i' g', g' < pG P → (i' < i ∨ (i' = i ∧ g' < j)) → ∃ k, k < n ∧ mI M 112 (6 * i' + g') = nI k ∧ S k = stp 21 (mM (gTG P) F) (S i') g'
theorem LM_bl58 {M0 : MM} (h0 : NtM M0 P o F) (hp : WP P) {i : Nat} : ∀ (d j : Nat), j + d = pG P → ∀ f, d < f → ∀ M n S, Sm [86, 111, 112] [] M0 M → (∀ x, x ≠ 47 → mI M 86 x = mI M0 86 x) → BM M P F n S → i < n → TB M P F n S i j →
    ∃ M' n' S', (∀ K48, LP4 (f12_layMachines_b58_body K48) f M 86 (nI i) (nI j) = K48 M' 86 (nI (i + 1))) ∧ Sm [86, 111, 112] [] M0 M' ∧ (∀ x, x ≠ 47 → mI M' 86 x = mI M0 86 x) ∧ BM M' P F n' S' ∧ i < n' ∧ TB M' P F n' S' (i + 1) 0
  | 0, j, hj, f + 1, _, M, n, S, sm, fl, bm, hi, tb => by
    have h : NtM M P o F := h0.sm sm (fl 30 (by decide)) (fl 5 (by decide)) (by decide) (by decide)
    obtain ⟨w, pg, -⟩ := id h
    have g6 := hp.2.1
    have le := bm.le hp h.2.2.2.2
    have e : j = pG P := by omega
    rw [e] at tb ⊢
    refine ⟨M, n, S, fun K48 => ?_, sm, fl, bm, hi, tb.1, fun i' g' hg q => tb.2 i' g' hg (by omega)⟩
    rw [LP4_s]
    generalize LP4 (f12_layMachines_b58_body K48) f = K
    unfold f12_layMachines_b58_body
    rw [aO_86 w, SM_signs w pg, cI_some, if_pos (nI_le (Nat.le_refl _) (by omega)), nI_1]
  | d + 1, j, hj, f + 1, hf, M, n, S, sm, fl, bm, hi, tb => by
    have h : NtM M P o F := h0.sm sm (fl 30 (by decide)) (fl 5 (by decide)) (by decide) (by decide)
    obtain ⟨w, pg, tg, -, hF⟩ := id h
    have g6 := hp.2.1
    have le := bm.le hp hF
    have ri := (bm.2.1 i hi)
    obtain ⟨M1, n1, S1, k, a1, a2, a3, a4, a5, a6, a7, a8, a9⟩ := SM_setFor w hp hF bm (ri.2.s hp hF (show j < pG P by omega))
    have w1 := w.sm a2
    have le1 := a4.le hp hF
    obtain ⟨M2, hM2⟩ : ∃ M2, M2 = uI M1 112 (upx (mI M1 112) (6 * i + j) (nI k)) := ⟨_, rfl⟩
    have s2 : Sm [86, 111, 112] [] M0 M2 := by rw [hM2]; exact (sm.trans (a2.more (by decide) (by decide))).uI _ (by decide)
    have f2 : ∀ x, x ≠ 47 → mI M2 86 x = mI M0 86 x := fun x hx => by
      rw [hM2, mI_uI, if_neg (by decide), a3 x hx]
      exact fl x hx
    have bm2 : BM M2 P F n1 S1 := by
      obtain ⟨b1, b2, b3⟩ := a4
      refine ⟨by rw [hM2, mI_uI, if_neg (by decide)]; exact b1, fun i hi => by rw [hM2, mI_uI, if_neg (by decide)]; exact b2 i hi, b3⟩
    have r112 : ∀ x, mI M1 112 x = mI M 112 x := fun x => by rw [a2.i 112 (by decide)]
    obtain ⟨M', n', S', k1, k2⟩ := LM_bl58 h0 hp (i := i) d (j + 1) (by omega) f (by omega) M2 n1 S1 s2 f2 bm2 (by omega) ⟨fun p hpp => by
        obtain ⟨t1, t2⟩ := tb.1 p hpp
        exact ⟨by omega, by rw [a6 p t1]; exact t2⟩, fun i' g' hg q => by
        by_cases c : i' = i ∧ g' = j
        · refine ⟨k, a7, ?_, ?_⟩
          · rw [hM2, mI_uI, if_pos rfl, upx_e, if_pos (by rw [c.1, c.2])]
          · rw [a8, c.1, c.2, a6 i hi]
        · obtain ⟨k', c1, c2, c3⟩ := tb.2 i' g' hg (by omega)
          refine ⟨k', by omega, ?_, ?_⟩
          · rw [hM2, mI_uI, if_pos rfl, upx_e, if_neg (by omega), r112]
            exact c2
          · rw [a6 k' c1, a6 i' (by omega)]
            exact c3⟩
    refine ⟨M', n', S', fun K48 => ?_, k2⟩
    rw [← k1 K48, LP4_s]
    generalize LP4 (f12_layMachines_b58_body K48) f = K
    unfold f12_layMachines_b58_body
    rw [aO_86 w, SM_signs w pg, cI_some, if_neg (nI_ge (by omega) (by omega)), aO_86 w, aO_86 w, r_86_43 w, aA_111 w (by omega), aO_86 w, nI_clamp (by omega), ri.1, SM_setBehind h (ri.2.v hp hF) (by omega), cI_some, aO_86 w, a1, cI_some, r_86_44 w, lit_6, nI_mulN, nI_add, aA_112 w1 (by omega), bM_e, sI_e, nI_clamp (by omega), ← hM2, nI_1]
theorem LM_bl48 {M0 : MM} (h0 : NtM M0 P o F) (hp : WP P) : ∀ (d i : Nat), i + d = 7204 → ∀ f, d < f → ∀ M n S, Sm [86, 111, 112] [] M0 M → (∀ x, x ≠ 47 → mI M 86 x = mI M0 86 x) → BM M P F n S → i ≤ n → TB M P F n S i 0 →
    ∃ M' n' S', LP3 f12_layMachines_b48_body f M 86 (nI i) = f12_layMachines_b111 (sI M' 86 48 0) 86 0 ∧ Sm [86, 111, 112] [] M0 M' ∧ (∀ x, x ≠ 47 → mI M' 86 x = mI M0 86 x) ∧ BM M' P F n' S' ∧ TB M' P F n' S' n' 0
  | d, i, hd, 0, hf, _, _, _, _, _, _, _, _ => absurd hf (Nat.not_lt_zero _)
  | d, i, hd, f + 1, hf, M, n, S, sm, fl, bm, hi, tb => by
    have h : NtM M P o F := h0.sm sm (fl 30 (by decide)) (fl 5 (by decide)) (by decide) (by decide)
    obtain ⟨w, pg, tg, -, hF⟩ := id h
    have le := bm.le hp hF
    by_cases c : n ≤ i
    · have e : i = n := by omega
      rw [e] at tb ⊢
      refine ⟨M, n, S, ?_, sm, fl, bm, tb⟩
      rw [LP3_s]
      generalize LP3 f12_layMachines_b48_body f = K
      unfold f12_layMachines_b48_body
      rw [aO_86 w, bm.1, if_pos (nI_le (Nat.le_refl _) (by omega)), aO_86 w, bM_e]
    · cases d with
      | zero => omega
      | succ d =>
        obtain ⟨M1, n1, S1, k1, k2, k3, k4, k5, k6⟩ := LM_bl58 h0 hp (i := i) (pG P) 0 (by omega) FU (FU_big (by have := hp.2.1; omega)) M n S sm fl bm (by omega) tb
        obtain ⟨M', n', S', z1, z2⟩ := LM_bl48 h0 hp d (i + 1) (by omega) f (by omega) M1 n1 S1 k2 k3 k4 (by omega) k6
        refine ⟨M', n', S', ?_, z2⟩
        rw [← z1, ← k1 (LP3 f12_layMachines_b48_body f), LP3_s]
        generalize LP3 f12_layMachines_b48_body f = K
        unfold f12_layMachines_b48_body
        rw [aO_86 w, bm.1, if_neg (nI_ge (by omega) (by omega))]
        rfl
theorem LM_bl24 {M0 : MM} (h0 : NtM M0 P o F) (hp : WP P) : ∀ (d p : Nat), p + d = pS P → ∀ f, d < f → ∀ M S, Sm [86, 111, 112] [] M0 M → (∀ x, x ≠ 47 → mI M 86 x = mI M0 86 x) → BM M P F p S → (∀ q, q < p → S q = 2 ^ q) →
    ∃ M' S', LP3 f12_layMachines_b24_body f M 86 (nI p) = f12_layMachines_b48 M' 86 0 ∧ Sm [86, 111, 112] [] M0 M' ∧ (∀ x, x ≠ 47 → mI M' 86 x = mI M0 86 x) ∧ BM M' P F (pS P) S' ∧ ∀ q, q < pS P → S' q = 2 ^ q
  | 0, p, hd, f + 1, _, M, S, sm, fl, bm, hs => by
    have h : NtM M P o F := h0.sm sm (fl 30 (by decide)) (fl 5 (by decide)) (by decide) (by decide)
    obtain ⟨w, pg, -⟩ := id h
    have p5 := hp.1
    have e : p = pS P := by omega
    rw [e] at bm hs ⊢
    refine ⟨M, S, ?_, sm, fl, bm, hs⟩
    rw [LP3_s]
    generalize LP3 f12_layMachines_b24_body f = K
    unfold f12_layMachines_b24_body
    rw [aO_86 w, SM_states w pg, cI_some, if_pos (nI_le (Nat.le_refl _) (by omega))]
  | d + 1, p, hd, f + 1, hf, M, S, sm, fl, bm, hs => by
    have h : NtM M P o F := h0.sm sm (fl 30 (by decide)) (fl 5 (by decide)) (by decide) (by decide)
    obtain ⟨w, pg, tg, -, hF⟩ := id h
    have p5 := hp.1
    obtain ⟨M1, n1, S1, k, a1, a2, a3, a4, a5, a6, a7, a8, a9⟩ := SM_setFor w hp hF bm (s := 2 ^ p) (.inl ⟨p, by omega, rfl⟩)
    have kp : p ≤ k := by
      refine Nat.le_of_not_lt (fun q => ?_)
      have e1 := a6 k q
      rw [a8, hs k q] at e1
      have : 2 ^ k < 2 ^ p := Nat.pow_lt_pow_right (by omega) q
      omega
    -- only the one is new
    have one : n1 = p + 1 ∧ k = p := by omega
    have en : n1 = p + 1 := by omega
    rw [en] at a4
    obtain ⟨M', S', z1, z2⟩ := LM_bl24 h0 hp d (p + 1) (by omega) f (by omega) M1 S1 (sm.trans (a2.more (by decide) (by decide))) (fun x hx => (a3 x hx).trans (fl x hx)) a4 (fun q hq => by
      by_cases c : q = p
      · rw [c, ← one.2]
        rw [a8, one.2]
      · rw [a6 q (by omega), hs q (by omega)])
    refine ⟨M', S', ?_, z2⟩
    rw [← z1, LP3_s]
    generalize LP3 f12_layMachines_b24_body f = K
    unfold f12_layMachines_b24_body
    rw [aO_86 w, SM_states w pg, cI_some, if_neg (nI_ge (by omega) (by omega)), aO_86 w, shl_nI (by omega), a1, cI_some, nI_1]
end BUILDM
