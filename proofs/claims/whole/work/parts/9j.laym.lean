/-! MACHINES: parts at the reference (behind), and all of it laid -/
section LAYM
variable {P : PG} {o : Nat}
theorem LM_lp88 {M0 : MM} (w0 : Wl M0) {n : Nat} {K' : Nat → Nat} (hn : n ≤ 7203) (h47 : mI M0 86 47 = nI n) (hK' : ∀ i, i < n → mI M0 114 i = nI (K' i)) : ∀ (d j : Nat), j + d = n → ∀ f, d < f → ∀ M, Sm [113] [] M0 M → (∀ i, i < j → mI M 113 i = nI (K' i)) → ∃ M', LP3 f12_laysParts_b88_body f M 86 (nI j) = some M' ∧ Sm [113] [] M0 M' ∧ ∀ i, i < n → mI M' 113 i = nI (K' i)
  | 0, j, hj, f + 1, _, M, s, h => by
    have w := w0.sm s
    have e : j = n := by omega
    rw [e] at h ⊢
    refine ⟨M, ?_, s, h⟩
    rw [LP3_s]
    generalize LP3 f12_laysParts_b88_body f = K
    unfold f12_laysParts_b88_body
    rw [aO_86 w, s.i 86 (by decide), h47, if_pos (nI_le (Nat.le_refl _) (by omega))]
  | d + 1, j, hj, f + 1, hf, M, s, h => by
    have w := w0.sm s
    obtain ⟨M', k1, k2⟩ := LM_lp88 w0 hn h47 hK' d (j + 1) (by omega) f (by omega) (uI M 113 (upx (mI M 113) j (nI (K' j)))) (s.uI _ (by decide)) (fun i hi => by
      rw [mI_uI, if_pos rfl, upx_e]
      by_cases e : i = j
      · rw [if_pos e, e]
      · rw [if_neg e, h i (by omega)])
    refine ⟨M', ?_, k2⟩
    rw [← k1, LP3_s]
    generalize LP3 f12_laysParts_b88_body f = K
    unfold f12_laysParts_b88_body
    rw [aO_86 w, s.i 86 (by decide), h47, if_neg (nI_ge (by omega) (by omega)), aO_86 w, aO_86 w, r_86_46 w, aA_114 w (by omega), r_86_45 w, aA_113 w (by omega), bM_e, sI_e, nI_clamp (by omega), s.i 114 (by decide), hK' j (by omega), nI_1]
theorem LM_lp7 {M0 : MM} (w0 : Wl M0) (pg0 : PgM M0 P o) (hp : WP P) {n : Nat} {t : Nat → Nat → Nat} {K : Nat → Nat} (mt0 : MT M0 P n t) (pk0 : PK M0 113 n K) : ∀ (d k : Nat), k + d = n → ∀ f, d < f → ∀ M K' m, Sm [86, 114] [] M0 M → (∀ x, x ≠ 48 → mI M 86 x = mI M0 86 x) → mI M 86 48 = nI m → (∀ i, i < k → mI M 114 i = nI (K' i)) → PtI (pG P) t K K' k m →
    ∃ M' K' m', LP3 f12_laysParts_b7_body f M 86 (nI k) = some M' ∧ Sm [86, 113, 114] [] M0 M' ∧ (∀ x, x ≠ 48 → mI M' 86 x = mI M0 86 x) ∧ mI M' 86 48 = nI m' ∧ (∀ i, i < n → mI M' 113 i = nI (K' i)) ∧ PtI (pG P) t K K' n m'
  | 0, k, hk, f + 1, _, M, K', m, s, fl, h48, hK', pt => by
    have w := w0.sm s
    have le := mt0.2.1
    have e : k = n := by omega
    rw [e] at hK' pt ⊢
    have h47 : mI M 86 47 = nI n := (fl 47 (by decide)).trans mt0.1
    obtain ⟨M', k1, k2, k3⟩ := LM_lp88 w le h47 hK' n 0 (by omega) FU (FU_big (by omega)) M (Sm.rfl _ _ M) (fun i hi => absurd hi (Nat.not_lt_zero _))
    refine ⟨M', K', m, ?_, (s.more (by decide) (by decide)).trans (k2.more (by decide) (by decide)), fun x hx => by rw [k2.i 86 (by decide)]; exact fl x hx, by rw [k2.i 86 (by decide)]; exact h48, k3, pt⟩
    rw [← k1, LP3_s]
    generalize LP3 f12_laysParts_b7_body f = K1
    unfold f12_laysParts_b7_body
    rw [aO_86 w, h47, if_pos (nI_le (Nat.le_refl _) (by omega))]
    rfl
  | d + 1, k, hk, f + 1, hf, M, K', m, s, fl, h48, hK', pt => by
    have w := w0.sm s
    have le := mt0.2.1
    have pg : PgM M P o := pg0.sm s (fl 5 (by decide)) (by decide) (by decide) (by decide)
    have h47 : mI M 86 47 = nI n := (fl 47 (by decide)).trans mt0.1
    have mt : MT M P n t := mt0.sm s (fl 47 (by decide)) (by decide)
    have pk : PK M 113 n K := pk0.sm s (by decide)
    have mk : m ≤ k := by rw [pt.2.2]; exact cntB_le _ _
    obtain ⟨v, m', q1, q2⟩ := LM_lp17 w pg hp mt pk (show k < n by omega) mk h48 hK' k 0 (by omega) FU (FU_big (by omega)) (fun i hi => absurd hi (Nat.not_lt_zero _))
    have pt' := pt.next q2
    obtain ⟨M', K2, m2, z1, z2⟩ := LM_lp7 w0 pg0 hp mt0 pk0 d (k + 1) (by omega) f (by omega) (sI (uI M 114 (upx (mI M 114) k (nI v))) 86 48 (nI m')) (upx K' k v) m' (by rw [sI_e]; exact (s.uI _ (by decide)).uI _ (by decide)) (fun x hx => by
        rw [mI_sI, if_neg (fun z => hx z.2), mI_uI, if_neg (by decide)]
        exact fl x hx) (by rw [mI_sI, if_pos ⟨rfl, rfl⟩]) (fun i hi => by
        rw [mI_sI, if_neg (fun z => by have := z.1; omega), mI_uI, if_pos rfl, upx_e, upx_e]
        by_cases e : i = k
        · rw [if_pos e, if_pos e]
        · rw [if_neg e, if_neg e, hK' i (by omega)]) pt'
    refine ⟨M', K2, m2, ?_, z2⟩
    rw [← z1, ← q1 (LP3 f12_laysParts_b7_body f), LP3_s]
    generalize LP3 f12_laysParts_b7_body f = K1
    unfold f12_laysParts_b7_body
    rw [aO_86 w, h47, if_neg (nI_ge (by omega) (by omega))]
    rfl
theorem SM_laysParts {M : MM} (w : Wl M) (pg : PgM M P o) (hp : WP P) {n : Nat} {t : Nat → Nat → Nat} {K : Nat → Nat} (mt : MT M P n t) (pk : PK M 113 n K) :
    ∃ M' K' m', f12_laysParts M 86 = some M' ∧ Sm [86, 113, 114] [] M M' ∧ (∀ x, x ≠ 48 → mI M' 86 x = mI M 86 x) ∧ mI M' 86 48 = nI m' ∧ PK M' 113 n K' ∧ PtI (pG P) t K K' n m' := by
  have w0 : Wl (sI M 86 48 0) := w
  have s0 : Sm [86] [] M (sI M 86 48 0) := by rw [sI_e]; exact (Sm.rfl _ _ M).uI _ (by decide)
  have f0 : ∀ x, x ≠ 48 → mI (sI M 86 48 0) 86 x = mI M 86 x := fun x hx => by rw [mI_sI, if_neg (fun z => hx z.2)]
  have le := mt.2.1
  obtain ⟨M', K', m', z1, z2, z3, z4, z5, z6⟩ := LM_lp7 w0 (pg.sm s0 (f0 5 (by decide)) (by decide) (by decide) (by decide)) hp (mt.sm s0 (f0 47 (by decide)) (by decide)) (pk.sm s0 (by decide)) n 0 (by omega) FU (FU_big (by omega)) (sI M 86 48 0) (fun _ => 0) 0 (Sm.rfl _ _ _) (fun _ _ => rfl) (by rw [mI_sI, if_pos ⟨rfl, rfl⟩]; rfl) (fun i hi => absurd hi (Nat.not_lt_zero _)) ⟨fun a b ha => absurd ha (Nat.not_lt_zero _), fun a ha => absurd ha (Nat.not_lt_zero _), rfl⟩
  have mn : m' ≤ n := by rw [z6.2.2]; exact cntB_le _ _
  refine ⟨M', K', m', ?_, (s0.more (by decide) (by decide)).trans z2, fun x hx => (z3 x hx).trans (f0 x hx), z4, fun i hi => ⟨z5 i hi, by have := z6.2.1 i hi; omega⟩, z6⟩
  unfold f12_laysParts
  rw [aO_86 w, bM_e]
  exact z1
theorem LM_lm151 {M0 : MM} (w0 : Wl M0) (pg0 : PgM M0 P o) (hp : WP P) {n : Nat} {t : Nat → Nat → Nat} (mt0 : MT M0 P n t) {gd : Nat → Bool} : ∀ (d had : Nat), had + d = n + 1 → ∀ f, d < f → ∀ M K, Sm [86, 113, 114] [] M0 M → (∀ x, x ≠ 48 → mI M 86 x = mI M0 86 x) → mI M 86 48 = nI had → PK M 113 n K → (had = 0 ∨ had = cntB (fsB K) n) → (∀ i j, i < n → j < n → K i = K j → gd i = gd j) → (∀ i j, i < n → j < n → LEq (pG P) t gd i j → K i = K j) →
    ∃ M' K m, LP3 f12_layMachines_b151_body (f + 1) M 86 1 = some M' ∧ Sm [86, 113, 114] [] M0 M' ∧ (∀ x, x ≠ 48 → mI M' 86 x = mI M0 86 x) ∧ mI M' 86 48 = nI m ∧ m ≤ n ∧ PK M' 113 n K ∧ (∀ i, i < n → K i < m) ∧ (∀ i j, i < n → j < n → K i = K j → gd i = gd j) ∧ (∀ i j, i < n → j < n → LEq (pG P) t gd i j → K i = K j) ∧ ∀ i j, i < n → j < n → K i = K j → ∀ g, g < pG P → K (t i g) = K (t j g)
  | d, had, hd, 0, hf, _, _, _, _, _, _, _, _, _ => absurd hf (Nat.not_lt_zero _)
  | d, had, hd, f + 1, hf, M, K, s, fl, h48, pk, hh, hg, hl => by
    have w := w0.sm s
    have le := mt0.2.1
    have pg : PgM M P o := pg0.sm s (fl 5 (by decide)) (by decide) (by decide) (by decide)
    have mt : MT M P n t := mt0.sm s (fl 47 (by decide)) (by decide)
    have ht : ∀ i g, i < n → g < pG P → t i g < n := fun i g hi hg => (mt.2.2 i g hi hg).2
    obtain ⟨M1, K', m', a1, a2, a3, a4, a5, p1, p2, p3⟩ := SM_laysParts w pg hp mt pk
    have w1 := w.sm a2
    have mn : m' ≤ n := by rw [p3]; exact cntB_le _ _
    have s1 : Sm [86, 113, 114] [] M0 M1 := s.trans a2
    have f1 : ∀ x, x ≠ 48 → mI M1 86 x = mI M0 86 x := fun x hx => (a3 x hx).trans (fl x hx)
    have hg' : ∀ i j, i < n → j < n → K' i = K' j → gd i = gd j := fun i j hi hj q => hg i j hi hj ((p1 i j hi hj).mp q).1
    have hl' : ∀ i j, i < n → j < n → LEq (pG P) t gd i j → K' i = K' j := fun i j hi hj q => (p1 i j hi hj).mpr (Rk1.of ht hl hi hj q)
    have head : LP3 f12_layMachines_b151_body (f + 1 + 1) M 86 1 = LP3 f12_layMachines_b151_body (f + 1) M1 86 (if m' = had then 0 else 1) := by
      rw [LP3_s]
      generalize LP3 f12_layMachines_b151_body (f + 1) = K1
      unfold f12_layMachines_b151_body f12_layMachines_b177
      rw [if_neg (by decide), aO_86 w, bW_e, aO_86 w, a1, cV_some, aO_86 w1, a4, h48]
      simp only [c_eq (show m' < 2 ^ 31 by omega) (show had < 2 ^ 31 by omega)]
      by_cases c : m' = had
      · rw [if_pos c, if_pos c]
      · rw [if_neg c, if_neg c]
    rw [head]
    by_cases c : m' = had
    · rw [if_pos c]
      have stop : ∀ i j, i < n → j < n → K i = K j → K' i = K' j := by
        rcases hh with z | z
        · intro i j hi
          have := p2 i hi
          omega
        · exact parts_stop (fun i j hi hj q => ((p1 i j hi hj).mp q).1) (by omega)
      refine ⟨M1, K', m', ?_, s1, f1, a4, mn, a5, p2, hg', hl', fun i j hi hj q g hgg => stop _ _ (ht i g hi hgg) (ht j g hj hgg) (((p1 i j hi hj).mp q).2 g hgg)⟩
      rw [LP3_s]
      generalize LP3 f12_layMachines_b151_body f = K1
      unfold f12_layMachines_b151_body
      rw [if_pos rfl]
    · rw [if_neg c]
      have lt : had < m' := by
        rcases hh with z | z
        · omega
        · have : cntB (fsB K) n ≤ cntB (fsB K') n := cntB_mono n (fun b hb hf => fsB_of (fun j hj e => fsB_t hf hj ((p1 j b (by omega) hb).mp e).1))
          omega
      obtain ⟨e, he⟩ : ∃ e, m' + e = n + 1 := ⟨n + 1 - m', by omega⟩
      exact LM_lm151 w0 pg0 hp mt0 e m' he f (by omega) M1 K' s1 f1 a4 a5 (.inr p3) hg' hl'
end LAYM
