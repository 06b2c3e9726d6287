/-! MACHINES: parts at the reference -/
theorem Rk1.sym {G : Nat} {t : Nat → Nat → Nat} {K : Nat → Nat} {i j : Nat} (h : Rk1 G t K i j) : Rk1 G t K j i := ⟨h.1.symm, fun g hg => (h.2 g hg).symm⟩
theorem Rk1.trans {G : Nat} {t : Nat → Nat → Nat} {K : Nat → Nat} {i j k : Nat} (h : Rk1 G t K i j) (h' : Rk1 G t K j k) : Rk1 G t K i k := ⟨h.1.trans h'.1, fun g hg => (h.2 g hg).trans (h'.2 g hg)⟩
theorem cntB_cg {f g : Nat → Bool} : ∀ k, (∀ i, i < k → f i = g i) → cntB f k = cntB g k
  | 0, _ => rfl
  | k + 1, h => by
    show cntB f k + _ = cntB g k + _
    rw [cntB_cg k (fun i hi => h i (by omega)), h k (by omega)]
/-- what parts anew are, as far as k -/
def PtI (G : Nat) (t : Nat → Nat → Nat) (K K' : Nat → Nat) (k m : Nat) : Prop := (∀ a b, a < k → b < k → (K' a = K' b ↔ Rk1 G t K a b)) ∧ (∀ a, a < k → K' a < m) ∧ m = cntB (fsB K') k
theorem fsB_cg {K K' : Nat → Nat} {i : Nat} (h : ∀ j, j ≤ i → K j = K' j) : fsB K i = fsB K' i := by
  refine Bool.eq_iff_iff.mpr ⟨fun q => fsB_of fun j hj e => ?_, fun q => fsB_of fun j hj e => ?_⟩
  · rw [← h j (by omega), ← h i (Nat.le_refl _)] at e
    exact fsB_t q hj e
  · rw [h j (by omega), h i (Nat.le_refl _)] at e
    exact fsB_t q hj e
theorem PtI.next {G : Nat} {t : Nat → Nat → Nat} {K K' : Nat → Nat} {k m v m' : Nat} (h : PtI G t K K' k m) (hv : (∃ like, like < k ∧ Rk1 G t K like k ∧ v = K' like ∧ m' = m) ∨ ((∀ i, i < k → ¬ Rk1 G t K i k) ∧ v = m ∧ m' = m + 1)) : PtI G t K (upx K' k v) (k + 1) m' := by
  obtain ⟨h1, h2, h3⟩ := h
  have off : ∀ a, a < k → upx K' k v a = K' a := fun a ha => by rw [upx_e, if_neg (by omega)]
  have on : upx K' k v k = v := by rw [upx_e, if_pos rfl]
  have eqv : ∀ a, a < k → (K' a = v ↔ Rk1 G t K a k) := fun a ha => by
    rcases hv with ⟨like, l1, l2, l3, -⟩ | ⟨n1, n2, -⟩
    · rw [l3, h1 a like ha l1]
      exact ⟨fun q => q.trans l2, fun q => q.trans l2.sym⟩
    · refine ⟨fun q => ?_, fun q => absurd q (n1 a ha)⟩
      have := h2 a ha
      omega
  have cn0 : cntB (fsB (upx K' k v)) k = m := by
    rw [h3]
    exact cntB_cg k (fun i hi => fsB_cg (fun j hj => off j (by omega)))
  refine ⟨fun a b ha hb => ?_, fun a ha => ?_, ?_⟩
  · by_cases ca : a = k
    · by_cases cb : b = k
      · rw [ca, cb]
        exact ⟨fun _ => ⟨rfl, fun _ _ => rfl⟩, fun _ => rfl⟩
      · rw [ca, on, off b (by omega)]
        exact ⟨fun q => ((eqv b (by omega)).mp q.symm).sym, fun q => ((eqv b (by omega)).mpr q.sym).symm⟩
    · by_cases cb : b = k
      · rw [cb, on, off a (by omega)]
        exact eqv a (by omega)
      · rw [off a (by omega), off b (by omega)]
        exact h1 a b (by omega) (by omega)
  · by_cases ca : a = k
    · rw [ca, on]
      rcases hv with ⟨like, l1, l2, l3, l4⟩ | ⟨n1, n2, n3⟩
      · rw [l3, l4]
        exact h2 like l1
      · omega
    · rw [off a (by omega)]
      have := h2 a (by omega)
      rcases hv with ⟨like, l1, l2, l3, l4⟩ | ⟨n1, n2, n3⟩ <;> omega
  · show m' = cntB (fsB (upx K' k v)) k + (if fsB (upx K' k v) k = true then 1 else 0)
    rw [cn0]
    rcases hv with ⟨like, l1, l2, l3, l4⟩ | ⟨n1, n2, n3⟩
    · have : ¬ fsB (upx K' k v) k = true := fun q => fsB_t q l1 (by rw [off like l1, on, l3])
      rw [if_neg this, l4]
      rfl
    · have : fsB (upx K' k v) k = true := fsB_of (fun j hj q => by
        rw [off j hj, on] at q
        exact n1 j hj ((eqv j hj).mp q))
      rw [if_pos this, n3]
section PARTSM
variable {P : PG} {o : Nat}
def MT (M : MM) (P : PG) (n : Nat) (t : Nat → Nat → Nat) : Prop := mI M 86 47 = nI n ∧ n ≤ 7203 ∧ ∀ i g, i < n → g < pG P → mI M 112 (6 * i + g) = nI (t i g) ∧ t i g < n
def PK (M : MM) (a n : Nat) (K : Nat → Nat) : Prop := ∀ i, i < n → mI M a i = nI (K i) ∧ K i ≤ 7203
theorem MT.sm {M M' : MM} {n : Nat} {t : Nat → Nat → Nat} (h : MT M P n t) {Is Js : List Nat} (s : Sm Is Js M M') (h47 : mI M' 86 47 = mI M 86 47) (hi : 112 ∉ Is) : MT M' P n t := by
  unfold MT at *
  rw [h47, s.i 112 hi]
  exact h
theorem PK.sm {M M' : MM} {a n : Nat} {K : Nat → Nat} (h : PK M a n K) {Is Js : List Nat} (s : Sm Is Js M M') (hi : a ∉ Is) : PK M' a n K := by
  unfold PK at *
  rw [s.i a hi]
  exact h
theorem LM_aa19 {M : MM} (w : Wl M) (pg : PgM M P o) (hp : WP P) {n : Nat} {t : Nat → Nat → Nat} {K : Nat → Nat} (mt : MT M P n t) (pk : PK M 113 n K) {a b : Nat} (ha : a < n) (hb : b < n) (hab : K a = K b) : ∀ (d j : Nat), j + d = pG P → ∀ f, d < f → (∀ g, g < j → K (t a g) = K (t b g)) → ∃ r, LP5 f12_areAlike_b19_body f M 86 (nI a) (nI b) (nI j) = some (bI r, M) ∧ (r = true ↔ Rk1 (pG P) t K a b)
  | 0, j, hj, f + 1, _, hg => by
    have g6 := hp.2.1
    refine ⟨true, ?_, fun _ => ⟨hab, fun g h => hg g (by omega)⟩, fun _ => rfl⟩
    rw [LP5_s]
    generalize LP5 f12_areAlike_b19_body f = K1
    unfold f12_areAlike_b19_body
    rw [aO_86 w, SM_signs w pg, cI_some, if_pos (nI_le (by omega) (by omega))]
    rfl
  | d + 1, j, hj, f + 1, hf, hg => by
    have g6 := hp.2.1
    have le := mt.2.1
    obtain ⟨ta, ta'⟩ := mt.2.2 a j ha (by omega)
    obtain ⟨tb, tb'⟩ := mt.2.2 b j hb (by omega)
    have pa := pk _ ta'
    have pb := pk _ tb'
    have head : LP5 f12_areAlike_b19_body (f + 1) M 86 (nI a) (nI b) (nI j) = if K (t a j) = K (t b j) then LP5 f12_areAlike_b19_body f M 86 (nI a) (nI b) (nI (j + 1)) else some (0, M) := by
      rw [LP5_s]
      generalize LP5 f12_areAlike_b19_body f = K1
      unfold f12_areAlike_b19_body
      rw [aO_86 w, SM_signs w pg, cI_some, if_neg (nI_ge (by omega) (by omega)), aO_86 w, aO_86 w, r_86_44 w, lit_6, nI_mulN, nI_add, aA_112 w (by omega), r_86_45 w, nI_clamp (by omega), ta, aA_113 w (by omega), aO_86 w, aO_86 w, nI_mulN, nI_add, aA_112 w (by omega), nI_clamp (by omega), tb, aA_113 w (by omega), nI_clamp (by omega), nI_clamp (by omega), pa.1, pb.1, nI_1]
      simp only [c_eq (show K (t a j) < 2 ^ 31 by omega) (show K (t b j) < 2 ^ 31 by omega)]
    rw [head]
    by_cases c : K (t a j) = K (t b j)
    · rw [if_pos c]
      exact LM_aa19 w pg hp mt pk ha hb hab d (j + 1) (by omega) f (by omega) (fun g h => by
        by_cases e : g = j
        · rw [e]
          exact c
        · exact hg g (by omega))
    · rw [if_neg c]
      exact ⟨false, rfl, (fun q => by cases q), fun q => absurd (q.2 j (by omega)) c⟩
theorem SM_areAlike {M : MM} (w : Wl M) (pg : PgM M P o) (hp : WP P) {n : Nat} {t : Nat → Nat → Nat} {K : Nat → Nat} (mt : MT M P n t) (pk : PK M 113 n K) {a b : Nat} (ha : a < n) (hb : b < n) : ∃ r, f12_areAlike M 86 (nI a) (nI b) = some (bI r, M) ∧ (r = true ↔ Rk1 (pG P) t K a b) := by
  have le := mt.2.1
  have pa := pk _ ha
  have pb := pk _ hb
  have head : f12_areAlike M 86 (nI a) (nI b) = if K a = K b then f12_areAlike_b19 M 86 (nI a) (nI b) 0 else some (0, M) := by
    unfold f12_areAlike
    rw [aO_86 w, r_86_45 w, aA_113 w (by omega), aO_86 w, aA_113 w (by omega), nI_clamp (by omega), nI_clamp (by omega), pa.1, pb.1]
    simp only [c_eq (show K a < 2 ^ 31 by omega) (show K b < 2 ^ 31 by omega)]
  rw [head]
  by_cases c : K a = K b
  · rw [if_pos c]
    exact LM_aa19 w pg hp mt pk ha hb c (pG P) 0 (by omega) FU (FU_big (by have := hp.2.1; omega)) (fun g h => absurd h (Nat.not_lt_zero _))
  · rw [if_neg c]
    exact ⟨false, rfl, (fun q => by cases q), fun q => absurd q.1 c⟩
/-- a set's part is laid -/
theorem LM_lp60 {M : MM} (w : Wl M) {k like m v : Nat} (hk : k ≤ 7203) (hl : like ≤ k) (hm : m ≤ 7203) (h48 : mI M 86 48 = nI m) (hv : like < k → mI M 114 like = nI v) (K7 : MM → Nat → Int32 → Option MM) : f12_laysParts_b37 K7 M 86 (nI k) (nI like) = K7 (sI (uI M 114 (upx (mI M 114) k (nI (if like = k then m else v)))) 86 48 (nI (if like = k then m + 1 else m))) 86 (nI (k + 1)) := by
  unfold f12_laysParts_b37 f12_laysParts_b60 f12_laysParts_b76
  have w' : ∀ r, Wl (uI M 114 r) := fun _ => w
  have r48 : ∀ r, mI (uI M 114 r) 86 48 = nI m := fun r => by rw [mI_uI, if_neg (by decide)]; exact h48
  by_cases c : like = k
  · rw [if_pos c, if_pos c, c, aO_86 w, if_pos (nI_le (Nat.le_refl _) (by omega)), aO_86 w, h48, r_86_46 w, aA_114 w (by omega), bM_e, sI_e, nI_clamp (by omega), aO_86 (w' _), if_pos rfl, aO_86 (w' _), r48, nI_1, bM_e, nI_1]
  · have := hv (by omega)
    rw [if_neg c, if_neg c, aO_86 w, if_neg (nI_ge (by omega) (by omega)), aO_86 w, r_86_46 w, aA_114 w (by omega), nI_clamp (by omega), aA_114 w (by omega), nI_clamp (by omega), this, bM_e, sI_e, aO_86 (w' _), if_neg (fun z => c ((nI_eq (by omega) (by omega)).mp z)), aO_86 (w' _), r48, lit_0, nI_add, Nat.add_zero, bM_e, nI_1]
theorem LM_lp17 {M : MM} (w : Wl M) (pg : PgM M P o) (hp : WP P) {n : Nat} {t : Nat → Nat → Nat} {K K' : Nat → Nat} (mt : MT M P n t) (pk : PK M 113 n K) {k m : Nat} (hk : k < n) (hm : m ≤ k) (h48 : mI M 86 48 = nI m) (hK' : ∀ i, i < k → mI M 114 i = nI (K' i)) : ∀ (d j : Nat), j + d = k → ∀ f, d < f → (∀ i, i < j → ¬ Rk1 (pG P) t K i k) →
    ∃ v m', (∀ K7, LP4 (f12_laysParts_b17_body K7) f M 86 (nI k) (nI j) = K7 (sI (uI M 114 (upx (mI M 114) k (nI v))) 86 48 (nI m')) 86 (nI (k + 1))) ∧ ((∃ like, like < k ∧ Rk1 (pG P) t K like k ∧ v = K' like ∧ m' = m) ∨ ((∀ i, i < k → ¬ Rk1 (pG P) t K i k) ∧ v = m ∧ m' = m + 1))
  | 0, j, hj, f + 1, _, hn => by
    have le := mt.2.1
    have e : j = k := by omega
    rw [e] at hn ⊢
    refine ⟨m, m + 1, fun K7 => ?_, .inr ⟨hn, rfl, rfl⟩⟩
    rw [LP4_s]
    generalize LP4 (f12_laysParts_b17_body K7) f = K1
    unfold f12_laysParts_b17_body
    rw [if_pos (nI_le (Nat.le_refl _) (by omega)), LM_lp60 w (by omega) (Nat.le_refl _) (by omega) h48 (v := 0) (fun q => absurd q (Nat.lt_irrefl _)), if_pos rfl, if_pos rfl]
  | d + 1, j, hj, f + 1, hf, hn => by
    have le := mt.2.1
    obtain ⟨r, r1, r2⟩ := SM_areAlike w pg hp mt pk (show j < n by omega) hk
    have head : ∀ K7, LP4 (f12_laysParts_b17_body K7) (f + 1) M 86 (nI k) (nI j) = if r = false then LP4 (f12_laysParts_b17_body K7) f M 86 (nI k) (nI (j + 1)) else f12_laysParts_b37 K7 M 86 (nI k) (nI j) := fun K7 => by
      rw [LP4_s]
      generalize LP4 (f12_laysParts_b17_body K7) f = K1
      unfold f12_laysParts_b17_body
      rw [if_neg (nI_ge (by omega) (by omega)), aO_86 w, r1, cI_some, nI_1]
      simp only [bI_0]
    cases r with
    | false =>
      obtain ⟨v, m', k1, k2⟩ := LM_lp17 w pg hp mt pk hk hm h48 hK' d (j + 1) (by omega) f (by omega) (fun i hi => by
        by_cases e : i = j
        · rw [e]
          intro q
          have := r2.mpr q
          cases this
        · exact hn i (by omega))
      exact ⟨v, m', fun K7 => by rw [head, if_pos rfl]; exact k1 K7, k2⟩
    | true =>
      refine ⟨K' j, m, fun K7 => ?_, .inl ⟨j, by omega, r2.mp rfl, rfl, rfl⟩⟩
      rw [head, if_neg (by decide), LM_lp60 w (by omega) (by omega) (by omega) h48 (v := K' j) (fun q => hK' j q), if_neg (by omega), if_neg (by omega)]
end PARTSM
