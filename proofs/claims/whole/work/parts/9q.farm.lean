/-! MACHINES: how far a good node is, at the reference -/
/-- whether a word of a length leads from a node to a good one -/
def rdB (G : Nat) (nb : Nat → Nat → Nat) (gd : Nat → Bool) : Nat → Nat → Bool
  | 0, k => gd k
  | i + 1, k => (List.range G).any fun g => rdB G nb gd i (nb k g)
def lst (G : Nat) (nb : Nat → Nat → Nat) (gd : Nat → Bool) (i k : Nat) : Prop := rdB G nb gd i k = true ∧ ∀ i', i' < i → rdB G nb gd i' k = false
/-- what is told of words shorter than n -/
def FD (G : Nat) (nb : Nat → Nat → Nat) (gd : Nat → Bool) (n k : Nat) (x : Int32) : Prop := (∃ i, i < n ∧ lst G nb gd i k ∧ x = nI i) ∨ ((∀ i, i < n → rdB G nb gd i k = false) ∧ x = -1)
section FARM
variable {G : Nat} {nb : Nat → Nat → Nat} {gd : Nat → Bool}
theorem lst_uniq {i j k : Nat} (h : lst G nb gd i k) (h' : lst G nb gd j k) : i = j := by
  rcases Nat.lt_trichotomy i j with q | q | q
  · have e := h.1
    rw [h'.2 i q] at e
    cases e
  · exact q
  · have e := h'.1
    rw [h.2 j q] at e
    cases e
theorem lst_nb {i k : Nat} (h : lst G nb gd (i + 1) k) : ∃ g, g < G ∧ lst G nb gd i (nb k g) := by
  obtain ⟨g, hg, e⟩ := any_iff.mp h.1
  refine ⟨g, hg, e, fun i' hi => ?_⟩
  rw [← Bool.not_eq_true]
  intro q
  have := h.2 (i' + 1) (by omega)
  rw [rdB, any_in hg q] at this
  cases this
theorem FD.is {n k i : Nat} {x : Int32} (h : FD G nb gd n k x) (hi : i < n) (hn : n ≤ 10000) : x = nI i ↔ lst G nb gd i k := by
  rcases h with ⟨j, hj, l, e⟩ | ⟨no, e⟩
  · rw [e, nI_eq (by omega) (by omega)]
    exact ⟨fun q => by rw [← q]; exact l, fun q => lst_uniq l q⟩
  · rw [e]
    refine ⟨fun q => absurd q.symm (nI_neM (by omega)), fun q => ?_⟩
    have := q.1
    rw [no i hi] at this
    cases this
theorem FD.skip {n k : Nat} {x : Int32} (h : FD G nb gd n k x) (hx : 0 ≤ x) : FD G nb gd (n + 1) k x := by
  rcases h with ⟨j, hj, l, e⟩ | ⟨no, e⟩
  · exact .inl ⟨j, by omega, l, e⟩
  · rw [e] at hx
    exact absurd hx (by decide)
variable {P : PG} {o : Nat}
theorem LM_lf68 {M0 : MM} (hp : WP P) {q : Nat} {nb : Nat → Nat → Nat} {gd : Nat → Bool} (nx : NDX M0 P q nb gd) {n k : Nat} (hn1 : 1 ≤ n) (hn : n ≤ 7300) (hk : k < q) (K57 : MM → Nat → Int32 → Int32 → Int32 → Option MM) {M : MM} (s : Sm [118] [117] M0 M) (hr : ∀ x, x < q → x < k → FD (pG P) nb gd (n + 1) x (mI M 118 x)) (hr' : ∀ x, x < q → k ≤ x → FD (pG P) nb gd n x (mI M 118 x)) (hneg : mI M 118 k = -1) : ∀ (d j : Nat), j + d = pG P → ∀ f, d < f → ∀ mo, (∀ g, g < j → ¬ lst (pG P) nb gd (n - 1) (nb k g)) →
    (∃ M', LP6 (f12_layFar_b68_body K57) f M 86 (bI mo) (nI n) (nI k) (nI j) = K57 M' 86 (bI true) (nI n) (nI (k + 1)) ∧ M' = uI M 118 (upx (mI M 118) k (nI n)) ∧ ∃ g, g < pG P ∧ lst (pG P) nb gd (n - 1) (nb k g)) ∨
    (LP6 (f12_layFar_b68_body K57) f M 86 (bI mo) (nI n) (nI k) (nI j) = K57 M 86 (bI mo) (nI n) (nI (k + 1)) ∧ ∀ g, g < pG P → ¬ lst (pG P) nb gd (n - 1) (nb k g))
  | 0, j, hj, f + 1, _, mo, no => by
    obtain ⟨w, sg, -, nd⟩ := nx.2.2 M s
    have g6 := hp.2.1
    have q7 := nx.1
    refine .inr ⟨?_, fun g hg => no g (by omega)⟩
    rw [LP6_s]
    generalize LP6 (f12_layFar_b68_body K57) f = K
    unfold f12_layFar_b68_body f12_layFar_b133
    rw [aO_86 w, sg, cI_some, if_pos (nI_le (by omega) (by omega)), nI_1]
  | d + 1, j, hj, f + 1, hf, mo, no => by
    obtain ⟨w, sg, -, nd⟩ := nx.2.2 M s
    obtain ⟨ok, ss, ok1, ok2, -, -, ok3⟩ := nd k hk
    obtain ⟨tk, t1, t2⟩ := ok3 j (by omega)
    have g6 := hp.2.1
    have q7 := nx.1
    have nl := nx.2.1 k j hk (by omega)
    have cell : mI M 118 (nb k j) = nI (n - 1) ↔ lst (pG P) nb gd (n - 1) (nb k j) := by
      by_cases c : nb k j < k
      · exact (hr _ nl c).is (by omega) (by omega)
      · exact (hr' _ nl (by omega)).is (by omega) (by omega)
    have head : LP6 (f12_layFar_b68_body K57) (f + 1) M 86 (bI mo) (nI n) (nI k) (nI j) = if mI M 118 (nb k j) = nI (n - 1) then LP6 (f12_layFar_b68_body K57) f (uI M 118 (upx (mI M 118) k (nI n))) 86 (bI true) (nI n) (nI k) (nI (j + 1)) else LP6 (f12_layFar_b68_body K57) f M 86 (bI mo) (nI n) (nI k) (nI (j + 1)) := by
      rw [LP6_s]
      generalize LP6 (f12_layFar_b68_body K57) f = K
      unfold f12_layFar_b68_body f12_layFar_b127
      rw [aO_86 w, sg, cI_some, if_neg (nI_ge (by omega) (by omega)), aO_86 w, r_86_54 w, aA_118 w (by omega), nI_clamp (by omega), hneg, if_neg (by decide), aO_86 w, aO_86 w, aO_86 w, r_86_50 w, aA_115 w (by omega), r_86_44 w, ok2, lit_6, nI_mulN, nI_add, aA_112 w (by omega), aO_86 w, nI_clamp (by omega), t1, t2, cI_some, aA_118 w (by omega), nI_clamp (by omega), nI_sub1 (by omega)]
      by_cases c : mI M 118 (nb k j) = nI (n - 1)
      · rw [if_pos c, if_pos c, aO_86 w, r_86_54 w, aA_118 w (by omega), bM_e, sI_e, nI_1]
        rfl
      · rw [if_neg c, if_neg c, nI_1]
    rw [head]
    by_cases c : mI M 118 (nb k j) = nI (n - 1)
    · rw [if_pos c]
      left
      refine ⟨uI M 118 (upx (mI M 118) k (nI n)), ?_, rfl, j, by omega, cell.mp c⟩
      -- told: the loop ends at once
      have s' : Sm [118] [117] M0 (uI M 118 (upx (mI M 118) k (nI n))) := s.uI _ (by decide)
      obtain ⟨w', sg', -, -⟩ := nx.2.2 _ s'
      cases f with
      | zero => omega
      | succ f =>
        rw [LP6_s]
        generalize LP6 (f12_layFar_b68_body K57) f = K
        unfold f12_layFar_b68_body f12_layFar_b133
        have pos : (0 : Int32) ≤ mI (uI M 118 (upx (mI M 118) k (nI n))) 118 k := by
          rw [mI_uI, if_pos rfl, upx_e, if_pos rfl]
          exact nI_le (Nat.zero_le _) (by omega)
        rw [aO_86 w', sg', cI_some, aO_86 w', r_86_54 w', aA_118 w' (by omega), nI_clamp (by omega), if_pos pos, nI_1, ite_self]
    · rw [if_neg c]
      exact LM_lf68 hp nx hn1 hn hk K57 s hr hr' hneg d (j + 1) (by omega) f (by omega) mo (fun g hg => by
        by_cases e : g = j
        · rw [e]
          exact fun z => c (cell.mpr z)
        · exact no g (by omega))
end FARM
