/-! MACHINES: stacks at the class -/
section STACKC
variable {P : PG} {o : Nat} {E R : Nat → Nat} {nw : NW}
theorem LY.getJ {M : MM} {ar : Nat → Nat} {d : Nat} (h : LY M ar d) {b i : Nat} (hb : b ∈ dL) (hi : i < ln d b) : f4_get M b (nI i) = some (mJ M (ar b) i, M) := by
  have rr := RMs_le h.2.2
  have l : ln d b < 2 ^ 31 := by unfold ln; split <;> omega
  rw [S4_get (h.1.longs hb) l, gJ_in hi l]
theorem LY.setJ {M : MM} {ar : Nat → Nat} {d : Nat} (h : LY M ar d) {b i : Nat} (hb : b ∈ dL) (hi : i < ln d b) (v : Int64) : f4_set M b (nI i) v = some (uJ M (ar b) (upx (mJ M (ar b)) i v)) := by
  have rr := RMs_le h.2.2
  have l : ln d b < 2 ^ 31 := by unfold ln; split <;> omega
  rw [S4_set (h.1.longs hb) l, pJ_in hi l]
def jL (ar : Nat → Nat) : List Nat := [ar 82, ar 84]
theorem NdC.j {M M' : MM} {ar : Nat → Nat} {d p n : Nat} {S : Nat → Nat} {t : Nat → Nat → Nat} {K os : Nat → Nat} {q : Nat} {v : Nat → Nat} (h : NdC M ar d P o p E R n S t K os q v) (s : Sm [] (jL ar) M M') : NdC M' ar d P o p E R n S t K os q v := by
  have e : ∀ a, mI M' a = mI M a := fun a => s.i a (fun z => by cases z)
  exact ⟨h.1.row (h.1.2.1.1.sm s (by rw [e])) (e 61) (by rw [s.r]) (fun b _ => e _), by rw [e]; exact h.2.1, h.2.2.row (e 61) (fun b _ => e _)⟩
theorem LY.n24 {M : MM} {ar : Nat → Nat} {d : Nat} (h : LY M ar d) : ar 82 ≠ ar 84 := fun e => absurd (h.1.ne 82 (by decide) 84 (by decide) e) (by decide)
def fw2 (G : Nat) (nb : Nat → Nat → Nat) (f : Nat → Nat) (k j x : Nat) : Nat := sumN (fun k' => sumN (fun g => if nb k' g = x then f k' else 0) G) k + sumN (fun g => if nb k g = x then f k else 0) j
theorem L5_lw37 {M0 : MM} {ar : Nat → Nat} {d p n : Nat} {S : Nat → Nat} {t : Nat → Nat → Nat} {K os : Nat → Nat} {q : Nat} {v : Nat → Nat} (hp : WP P) (h0 : NdC M0 ar d P o p E R n S t K os q v) {f : Nat → Nat} {k : Nat} (hk : k < q) : ∀ (e j : Nat), j + e = pG P → ∀ fu, e < fu → ∀ M, Sm [] (jL ar) M0 M → (∀ x, x < q → mJ M (ar 82) x = lN (f x)) → (∀ x, x < q → mJ M (ar 84) x = lN (fw2 (pG P) (fun k g => v (pG P * k + g)) f k j x)) →
    ∃ M', (∀ K27, LP4 (f5_lengthenWords_b37_body K27) fu M 61 (nI k) (nI j) = K27 M' 61 (nI (k + 1))) ∧ Sm [] (jL ar) M0 M' ∧ (∀ x, x < q → mJ M' (ar 82) x = lN (f x)) ∧ ∀ x, x < q → mJ M' (ar 84) x = lN (fw2 (pG P) (fun k g => v (pG P * k + g)) f k (pG P) x)
  | 0, j, hj, fu + 1, _, M, s, hw, hl => by
    have nd := h0.j s
    have w := nd.1.2.1.1.1.w
    have g6 := hp.2.1
    have e : j = pG P := by omega
    rw [e] at hl ⊢
    refine ⟨M, fun K27 => ?_, s, hw, hl⟩
    rw [LP4_s]
    generalize LP4 (f5_lengthenWords_b37_body K27) fu = K1
    unfold f5_lengthenWords_b37_body
    rw [aO_61 w, nd.1.2.1.2.2.2.2.2.2.2.2, if_pos (nI_le (Nat.le_refl _) (by omega)), nI_1]
  | e + 1, j, hj, fu + 1, hf, M, s, hw, hl => by
    have nd := h0.j s
    obtain ⟨qn, q0, le⟩ := nd.row
    have ly := nd.1.2.1.1
    have w := ly.1.w
    have hr := nd.1.2.1.2.2.1
    have g6 := hp.2.1
    obtain ⟨b1, b2⟩ := S5_nodeBehind hp nd hk (show j < pG P by omega)
    have l84 : v (pG P * k + j) < ln d 84 := Nat.lt_of_lt_of_le (show v (pG P * k + j) < n by omega) hr
    have l82 : k < ln d 82 := Nat.lt_of_lt_of_le (show k < n by omega) hr
    obtain ⟨M1, hM1⟩ : ∃ M1, M1 = uJ M (ar 84) (upx (mJ M (ar 84)) (v (pG P * k + j)) (lN (fw2 (pG P) (fun k g => v (pG P * k + g)) f k j (v (pG P * k + j)) + f k))) := ⟨_, rfl⟩
    obtain ⟨M', k1, k2⟩ := L5_lw37 hp h0 (f := f) hk e (j + 1) (by omega) fu (by omega) M1 (by rw [hM1]; exact s.uJ _ (by simp [jL])) (fun x hx => by
      rw [hM1, mJ_uJ, if_neg ly.n24]
      exact hw x hx) (fun x hx => by
      rw [hM1, mJ_uJ, if_pos rfl, upx_e]
      have st : fw2 (pG P) (fun k g => v (pG P * k + g)) f k (j + 1) x = fw2 (pG P) (fun k g => v (pG P * k + g)) f k j x + if v (pG P * k + j) = x then f k else 0 := by
        unfold fw2
        show _ + (sumN _ j + (if v (pG P * k + j) = x then f k else 0)) = _
        omega
      rw [st]
      by_cases c : x = v (pG P * k + j)
      · rw [if_pos c, if_pos c.symm, c]
      · rw [if_neg c, if_neg (fun z => c z.symm), Nat.add_zero]
        exact hl x hx)
    refine ⟨M', fun K27 => ?_, k2⟩
    rw [← k1 K27, LP4_s]
    generalize LP4 (f5_lengthenWords_b37_body K27) fu = K1
    unfold f5_lengthenWords_b37_body
    rw [aO_61 w, nd.1.2.1.2.2.2.2.2.2.2.2, if_neg (nI_ge (by omega) (by omega)), aO_61 w, b1, cI_some, aO_61 w, aO_61 w, r_61_11 w, ly.oL (by decide), ly.getJ (by decide) l84, cJ_some, aO_61 w, r_61_10 w, ly.oL (by decide), ly.getJ (by decide) l82, cJ_some, ly.oL (by decide), ly.setJ (by decide) l84, cV_some, hl _ b2, hw k hk, lN_add, ← hM1, nI_1]
theorem L5_lw91 {M0 : MM} {ar : Nat → Nat} {d p n : Nat} {S : Nat → Nat} {t : Nat → Nat → Nat} {K os : Nat → Nat} {q : Nat} {v : Nat → Nat} (h0 : NdC M0 ar d P o p E R n S t K os q v) {f : Nat → Nat} : ∀ (e k : Nat), k + e = q → ∀ fu, e < fu → ∀ M, Sm [] (jL ar) M0 M → (∀ x, x < q → mJ M (ar 84) x = lN (f x)) → (∀ x, x < k → mJ M (ar 82) x = lN (f x)) →
    ∃ M', LP3 f5_lengthenWords_b91_body fu M 61 (nI k) = some M' ∧ Sm [] (jL ar) M0 M' ∧ ∀ x, x < q → mJ M' (ar 82) x = lN (f x)
  | 0, k, hj, fu + 1, _, M, s, hl, hw => by
    have nd := h0.j s
    obtain ⟨qn, q0, le⟩ := nd.row
    have w := nd.1.2.1.1.1.w
    have e : k = q := by omega
    rw [e] at hw ⊢
    refine ⟨M, ?_, s, hw⟩
    rw [LP3_s]
    generalize LP3 f5_lengthenWords_b91_body fu = K1
    unfold f5_lengthenWords_b91_body
    rw [aO_61 w, nd.2.2.1.1, if_pos (nI_le (Nat.le_refl _) (by omega))]
  | e + 1, k, hj, fu + 1, hf, M, s, hl, hw => by
    have nd := h0.j s
    obtain ⟨qn, q0, le⟩ := nd.row
    have ly := nd.1.2.1.1
    have w := ly.1.w
    have hr := nd.1.2.1.2.2.1
    have l84 : k < ln d 84 := Nat.lt_of_lt_of_le (show k < n by omega) hr
    have l82 : k < ln d 82 := Nat.lt_of_lt_of_le (show k < n by omega) hr
    obtain ⟨M1, hM1⟩ : ∃ M1, M1 = uJ M (ar 82) (upx (mJ M (ar 82)) k (lN (f k))) := ⟨_, rfl⟩
    obtain ⟨M', k1, k2⟩ := L5_lw91 h0 (f := f) e (k + 1) (by omega) fu (by omega) M1 (by rw [hM1]; exact s.uJ _ (by simp [jL])) (fun x hx => by
      rw [hM1, mJ_uJ, if_neg ly.n24.symm]
      exact hl x hx) (fun x hx => by
      rw [hM1, mJ_uJ, if_pos rfl, upx_e]
      by_cases c : x = k
      · rw [if_pos c, c]
      · rw [if_neg c]
        exact hw x (by omega))
    refine ⟨M', ?_, k2⟩
    rw [← k1, LP3_s]
    generalize LP3 f5_lengthenWords_b91_body fu = K1
    unfold f5_lengthenWords_b91_body
    rw [aO_61 w, nd.2.2.1.1, if_neg (nI_ge (by omega) (by omega)), aO_61 w, aO_61 w, r_61_11 w, ly.oL (by decide), ly.getJ (by decide) l84, cJ_some, r_61_10 w, ly.oL (by decide), ly.setJ (by decide) l82, cV_some, hl k (by omega), ← hM1, nI_1]
theorem L5_lw27 {M0 : MM} {ar : Nat → Nat} {d p n : Nat} {S : Nat → Nat} {t : Nat → Nat → Nat} {K os : Nat → Nat} {q : Nat} {v : Nat → Nat} (hp : WP P) (h0 : NdC M0 ar d P o p E R n S t K os q v) {f : Nat → Nat} : ∀ (e k : Nat), k + e = q → ∀ fu, e < fu → ∀ M, Sm [] (jL ar) M0 M → (∀ x, x < q → mJ M (ar 82) x = lN (f x)) → (∀ x, x < q → mJ M (ar 84) x = lN (fw2 (pG P) (fun k g => v (pG P * k + g)) f k 0 x)) →
    ∃ M', LP3 f5_lengthenWords_b27_body fu M 61 (nI k) = some M' ∧ Sm [] (jL ar) M0 M' ∧ ∀ x, x < q → mJ M' (ar 82) x = lN (fw2 (pG P) (fun k g => v (pG P * k + g)) f q 0 x)
  | 0, k, hj, fu + 1, _, M, s, hw, hl => by
    have nd := h0.j s
    obtain ⟨qn, q0, le⟩ := nd.row
    have w := nd.1.2.1.1.1.w
    have e : k = q := by omega
    rw [e] at hl ⊢
    obtain ⟨M', k1, k2⟩ := L5_lw91 h0 (f := fun x => fw2 (pG P) (fun k g => v (pG P * k + g)) f q 0 x) q 0 (by omega) FU (FU_big (by omega)) M s hl (fun x hx => absurd hx (Nat.not_lt_zero _))
    refine ⟨M', ?_, k2⟩
    rw [← k1, LP3_s]
    generalize LP3 f5_lengthenWords_b27_body fu = K1
    unfold f5_lengthenWords_b27_body
    rw [aO_61 w, nd.2.2.1.1, if_pos (nI_le (Nat.le_refl _) (by omega))]
    rfl
  | e + 1, k, hj, fu + 1, hf, M, s, hw, hl => by
    have nd := h0.j s
    obtain ⟨qn, q0, le⟩ := nd.row
    have w := nd.1.2.1.1.1.w
    obtain ⟨M1, a1, a2, a3, a4⟩ := L5_lw37 hp h0 (f := f) (show k < q by omega) (pG P) 0 (by omega) FU (FU_big (by have := hp.2.1; omega)) M s hw hl
    obtain ⟨M', k1, k2⟩ := L5_lw27 hp h0 (f := f) e (k + 1) (by omega) fu (by omega) M1 a2 a3 (fun x hx => by
      rw [a4 x hx]
      rfl)
    refine ⟨M', ?_, k2⟩
    rw [← k1, ← a1 (LP3 f5_lengthenWords_b27_body fu), LP3_s]
    generalize LP3 f5_lengthenWords_b27_body fu = K1
    unfold f5_lengthenWords_b27_body
    rw [aO_61 w, nd.2.2.1.1, if_neg (nI_ge (by omega) (by omega))]
    rfl
theorem L5_lw2 {M0 : MM} {ar : Nat → Nat} {d p n : Nat} {S : Nat → Nat} {t : Nat → Nat → Nat} {K os : Nat → Nat} {q : Nat} {v : Nat → Nat} (h0 : NdC M0 ar d P o p E R n S t K os q v) : ∀ (e k : Nat), k + e = q → ∀ fu, e < fu → ∀ M, Sm [] [ar 84] M0 M → (∀ x, x < k → mJ M (ar 84) x = lN 0) →
    ∃ M', LP3 f5_lengthenWords_b2_body fu M 61 (nI k) = f5_lengthenWords_b27 M' 61 0 ∧ Sm [] [ar 84] M0 M' ∧ ∀ x, x < q → mJ M' (ar 84) x = lN 0
  | 0, k, hj, fu + 1, _, M, s, hl => by
    have nd := h0.j (s.more (fun _ z => z) (fun a ha => by unfold jL; rw [List.mem_singleton.mp ha]; simp))
    obtain ⟨qn, q0, le⟩ := nd.row
    have w := nd.1.2.1.1.1.w
    have e : k = q := by omega
    rw [e] at hl ⊢
    refine ⟨M, ?_, s, hl⟩
    rw [LP3_s]
    generalize LP3 f5_lengthenWords_b2_body fu = K1
    unfold f5_lengthenWords_b2_body
    rw [aO_61 w, nd.2.2.1.1, if_pos (nI_le (Nat.le_refl _) (by omega))]
  | e + 1, k, hj, fu + 1, hf, M, s, hl => by
    have nd := h0.j (s.more (fun _ z => z) (fun a ha => by unfold jL; rw [List.mem_singleton.mp ha]; simp))
    obtain ⟨qn, q0, le⟩ := nd.row
    have ly := nd.1.2.1.1
    have w := ly.1.w
    have hr := nd.1.2.1.2.2.1
    have l84 : k < ln d 84 := Nat.lt_of_lt_of_le (show k < n by omega) hr
    obtain ⟨M1, hM1⟩ : ∃ M1, M1 = uJ M (ar 84) (upx (mJ M (ar 84)) k 0) := ⟨_, rfl⟩
    obtain ⟨M', k1, k2⟩ := L5_lw2 h0 e (k + 1) (by omega) fu (by omega) M1 (by rw [hM1]; exact s.uJ _ (by simp)) (fun x hx => by
      rw [hM1, mJ_uJ, if_pos rfl, upx_e]
      by_cases c : x = k
      · rw [if_pos c]
        rfl
      · rw [if_neg c]
        exact hl x (by omega))
    refine ⟨M', ?_, k2⟩
    rw [← k1, LP3_s]
    generalize LP3 f5_lengthenWords_b2_body fu = K1
    unfold f5_lengthenWords_b2_body
    rw [aO_61 w, nd.2.2.1.1, if_neg (nI_ge (by omega) (by omega)), aO_61 w, r_61_11 w, ly.oL (by decide), ly.setJ (by decide) l84, cV_some, ← hM1, nI_1]
theorem S5_lengthenWords {M0 M : MM} {ar : Nat → Nat} {d p n : Nat} {S : Nat → Nat} {t : Nat → Nat → Nat} {K os : Nat → Nat} {q : Nat} {v : Nat → Nat} (hp : WP P) (h0 : NdC M0 ar d P o p E R n S t K os q v) (s : Sm [] (jL ar) M0 M) {i : Nat} (hw : ∀ x, x < q → mJ M (ar 82) x = lN (fwN (pG P) q (fun k g => v (pG P * k + g)) i x)) : ∃ M', f5_lengthenWords M 61 = some M' ∧ Sm [] (jL ar) M0 M' ∧ ∀ x, x < q → mJ M' (ar 82) x = lN (fwN (pG P) q (fun k g => v (pG P * k + g)) (i + 1) x) := by
  have nd := h0.j s
  obtain ⟨qn, q0, le⟩ := nd.row
  have ly := nd.1.2.1.1
  obtain ⟨M1, a1, a2, a3⟩ := L5_lw2 nd q 0 (by omega) FU (FU_big (by omega)) M (Sm.rfl _ _ _) (fun x hx => absurd hx (Nat.not_lt_zero _))
  have s1 : Sm [] (jL ar) M0 M1 := s.trans (a2.more (fun _ z => z) (fun a ha => by unfold jL; rw [List.mem_singleton.mp ha]; simp))
  obtain ⟨M2, b1, b2, b3⟩ := L5_lw27 hp h0 (f := fwN (pG P) q (fun k g => v (pG P * k + g)) i) q 0 (by omega) FU (FU_big (by omega)) M1 s1 (fun x hx => by
    rw [a2.j (ar 82) (fun z => ly.n24 (List.mem_singleton.mp z))]
    exact hw x hx) (fun x hx => by rw [a3 x hx]; rfl)
  exact ⟨M2, a1.trans b1, b2, b3⟩
end STACKC
