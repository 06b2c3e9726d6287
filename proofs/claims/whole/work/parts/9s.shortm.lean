/-! MACHINES: the shortest stack, at the reference -/
/-- the least signs of the shortest word from a node -/
def GRk (G : Nat) (nb : Nat → Nat → Nat) (gd : Nat → Bool) (D k : Nat) (W N : Nat → Nat) : Prop := N 0 = k ∧ ∀ s, s < D → W s < G ∧ rdB G nb gd (D - 1 - s) (nb (N s) (W s)) = true ∧ (∀ g, g < W s → rdB G nb gd (D - 1 - s) (nb (N s) g) = false) ∧ N (s + 1) = nb (N s) (W s)
def shA (G : Nat) (nb : Nat → Nat → Nat) (gd : Nat → Bool) (y r : Int32) : Prop := ((∀ i, rdB G nb gd i 0 = false) → r = -1) ∧ ∀ D, lst G nb gd D 0 → (y = -1 → r = nI D) ∧ (∀ i, i < D → y = nI i → ∃ W N, GRk G nb gd D 0 W N ∧ r = nI (W i)) ∧ (y ≠ -1 → (∀ i, i < D → y ≠ nI i) → r = -1)
section SHORTM
variable {G : Nat} {nb : Nat → Nat → Nat} {gd : Nat → Bool}
theorem lst_dn {d k g : Nat} (h : lst G nb gd (d + 1) k) (hg : g < G) (hr : rdB G nb gd d (nb k g) = true) : lst G nb gd d (nb k g) := ⟨hr, fun i' hi => by
  rw [← Bool.not_eq_true]
  intro q
  have := h.2 (i' + 1) (by omega)
  rw [rdB, any_in hg q] at this
  cases this⟩
theorem GRk_ex : ∀ D k, lst G nb gd D k → ∃ W N, GRk G nb gd D k W N
  | 0, k, _ => ⟨fun _ => 0, fun _ => k, rfl, fun s hs => absurd hs (Nat.not_lt_zero _)⟩
  | D + 1, k, h => by
    obtain ⟨g0, hg0, l0⟩ := lst_nb h
    obtain ⟨g, ⟨hg, hr⟩, -, hm⟩ := least_ex (Q := fun g => g < G ∧ rdB G nb gd D (nb k g) = true) g0 ⟨hg0, l0.1⟩
    obtain ⟨W, N, a, b⟩ := GRk_ex D (nb k g) (lst_dn h hg hr)
    refine ⟨fun s => if s = 0 then g else W (s - 1), fun s => if s = 0 then k else N (s - 1), rfl, fun s hs => ?_⟩
    cases s with
    | zero =>
      refine ⟨hg, hr, fun g' hg' => ?_, a⟩
      rw [← Bool.not_eq_true]
      have hg'' : g' < g := hg'
      exact fun z => hm g' hg'' ⟨by omega, z⟩
    | succ s =>
      obtain ⟨c1, c2, c3, c4⟩ := b s (by omega)
      have e : D + 1 - 1 - (s + 1) = D - 1 - s := by omega
      rw [e]
      exact ⟨c1, c2, c3, c4⟩
theorem GRk.lst {D k : Nat} {W N : Nat → Nat} (h : GRk G nb gd D k W N) (hl : lst G nb gd D k) : ∀ s, s ≤ D → lst G nb gd (D - s) (N s)
  | 0, _ => by
    rw [h.1]
    exact hl
  | s + 1, hs => by
    obtain ⟨c1, c2, c3, c4⟩ := h.2 s (by omega)
    have ih := GRk.lst h hl s (by omega)
    rw [c4]
    rw [show D - s = D - 1 - s + 1 by omega] at ih
    have := lst_dn ih c1 c2
    rw [show D - (s + 1) = D - 1 - s by omega]
    exact this
theorem GRk_eq {D k : Nat} {W N W' N' : Nat → Nat} (h : GRk G nb gd D k W N) (h' : GRk G nb gd D k W' N') : ∀ s, s ≤ D → N s = N' s ∧ ∀ i, i < s → W i = W' i
  | 0, _ => ⟨h.1.trans h'.1.symm, fun i hi => absurd hi (Nat.not_lt_zero _)⟩
  | s + 1, hs => by
    obtain ⟨e1, e2⟩ := GRk_eq h h' s (by omega)
    obtain ⟨c1, c2, c3, c4⟩ := h.2 s (by omega)
    obtain ⟨d1, d2, d3, d4⟩ := h'.2 s (by omega)
    have w : W s = W' s := by
      rcases Nat.lt_trichotomy (W s) (W' s) with q | q | q
      · have := d3 _ q
        rw [← e1, c2] at this
        cases this
      · exact q
      · have := c3 _ q
        rw [e1, d2] at this
        cases this
    refine ⟨by rw [c4, d4, e1, w], fun i hi => ?_⟩
    by_cases e : i = s
    · rw [e]
      exact w
    · exact e2 i (by omega)
theorem shA_eq {y r r' : Int32} (a : shA G nb gd y r) (b : shA G nb gd y r') : r = r' := by
  by_cases c : ∃ i, rdB G nb gd i 0 = true
  · obtain ⟨i, hi⟩ := c
    obtain ⟨D, -, hD⟩ := rd_lst i hi
    obtain ⟨a1, a2, a3⟩ := a.2 D hD
    obtain ⟨b1, b2, b3⟩ := b.2 D hD
    by_cases c1 : y = -1
    · rw [a1 c1, b1 c1]
    · by_cases c2 : ∃ i, i < D ∧ y = nI i
      · obtain ⟨i, hi, e⟩ := c2
        obtain ⟨W, N, g1, e1⟩ := a2 i hi e
        obtain ⟨W', N', g2, e2⟩ := b2 i hi e
        rw [e1, e2, (GRk_eq g1 g2 D (Nat.le_refl _)).2 i hi]
      · rw [a3 c1 (fun i hi e => c2 ⟨i, hi, e⟩), b3 c1 (fun i hi e => c2 ⟨i, hi, e⟩)]
  · have no : ∀ i, rdB G nb gd i 0 = false := fun i => by
      rw [← Bool.not_eq_true]
      exact fun z => c ⟨i, z⟩
    rw [a.1 no, b.1 no]
variable {P : PG} {o : Nat}
theorem FA0.is {k i : Nat} {x : Int32} (h : FA0 G nb gd k x) (hi : i < 7300) : x = nI i ↔ lst G nb gd i k := by
  rcases h with ⟨j, hj, l, e⟩ | ⟨no, e⟩
  · rw [e, nI_eq (by omega) (by omega)]
    exact ⟨fun q => by rw [← q]; exact l, fun q => lst_uniq l q⟩
  · rw [e]
    refine ⟨fun q => absurd q.symm (nI_neM (by omega)), fun q => ?_⟩
    have := q.1
    rw [no i] at this
    cases this
theorem LM_sh89 {M0 : MM} (hp : WP P) {q : Nat} {nb : Nat → Nat → Nat} {gd : Nat → Bool} (nx : NDX M0 P q nb gd) {M : MM} (s : Sm [118] [117] M0 M) (hf : ∀ x, x < q → FA0 (pG P) nb gd x (mI M 118 x)) {k d W : Nat} (hd : d < 7299) (hk : k < q) (hl : lst (pG P) nb gd (d + 1) k) (hW : W < pG P) (hw : rdB (pG P) nb gd d (nb k W) = true) (hm : ∀ g, g < W → rdB (pG P) nb gd d (nb k g) = false) (K80 : MM → Nat → Int32 → Int32 → Int32 → Int32 → Option (Int32 × MM)) (a2 a5 : Int32) : ∀ (e j : Nat), j + e = W → ∀ f, e < f → LP6 (f12_shortest_b89_body K80) f M 86 a2 (nI k) (nI j) a5 = K80 M 86 a2 (nI (nb k W)) (nI W) (a5 + 1)
  | e, j, hj, 0, hf' => absurd hf' (Nat.not_lt_zero _)
  | e, j, hj, f + 1, hf' => by
    obtain ⟨w, sg, -, nd⟩ := nx.2.2 M s
    obtain ⟨ok, ss, ok1, ok2, -, -, ok3⟩ := nd k hk
    obtain ⟨tk, t1, t2⟩ := ok3 j (by omega)
    have g6 := hp.2.1
    have q7 := nx.1
    have nl := nx.2.1 k j hk (by omega)
    have ck : mI M 118 k = nI (d + 1) := ((hf k hk).is (by omega)).mpr hl
    have cj : mI M 118 (nb k j) = nI d ↔ lst (pG P) nb gd d (nb k j) := (hf _ nl).is (by omega)
    have head : LP6 (f12_shortest_b89_body K80) (f + 1) M 86 a2 (nI k) (nI j) a5 = if mI M 118 (nb k j) = nI d then K80 M 86 a2 (nI (nb k j)) (nI j) (a5 + 1) else LP6 (f12_shortest_b89_body K80) f M 86 a2 (nI k) (nI (j + 1)) a5 := by
      rw [LP6_s]
      generalize LP6 (f12_shortest_b89_body K80) f = K
      unfold f12_shortest_b89_body
      rw [aO_86 w, aO_86 w, aO_86 w, r_86_50 w, aA_115 w (by omega), r_86_44 w, nI_clamp (by omega), ok2, lit_6, nI_mulN, nI_add, aA_112 w (by omega), aO_86 w, nI_clamp (by omega), t1, t2, cI_some, r_86_54 w, aA_118 w (by omega), aO_86 w, aA_118 w (by omega), nI_clamp (by omega), ck, nI_sub1 (by omega), show d + 1 - 1 = d by omega]
      by_cases c : mI M 118 (nb k j) = nI d
      · rw [if_pos c, if_pos c, aO_86 w, aO_86 w, r_86_50 w, aA_115 w (by omega), r_86_44 w, ok2, nI_mulN, nI_add, aA_112 w (by omega), aO_86 w, nI_clamp (by omega), t1, t2, cI_some]
      · rw [if_neg c, if_neg c, nI_1]
    rw [head]
    cases e with
    | zero =>
      have ej : j = W := by omega
      rw [ej] at cj ⊢
      rw [if_pos (cj.mpr (lst_dn hl hW hw))]
    | succ e =>
      rw [if_neg (fun z => by
        have := (cj.mp z).1
        rw [hm j (by omega)] at this
        cases this)]
      exact LM_sh89 hp nx s hf hd hk hl hW hw hm K80 a2 a5 e (j + 1) (by omega) f (by omega)
theorem LM_sh80 {M0 : MM} (hp : WP P) {q : Nat} {nb : Nat → Nat → Nat} {gd : Nat → Bool} (nx : NDX M0 P q nb gd) (hq : 0 < q) {M : MM} (s : Sm [118] [117] M0 M) (hf : ∀ x, x < q → FA0 (pG P) nb gd x (mI M 118 x)) {D : Nat} (hD : D < 7300) {W N : Nat → Nat} (hl : lst (pG P) nb gd D 0) (gr : GRk (pG P) nb gd D 0 W N) {i : Nat} (hi : i < D) : ∀ (e t : Nat), t + e = i + 1 → ∀ f, e < f → ∀ g : Nat, (1 ≤ t → g = W (t - 1)) → N t < q → LP6 f12_shortest_b80_body f M 86 (nI i) (nI (N t)) (nI g) (nI t) = some (nI (if e = 0 then g else W i), M)
  | 0, t, ht, f + 1, _, g, hg, hn => by
    rw [LP6_s]
    generalize LP6 f12_shortest_b80_body f = K
    unfold f12_shortest_b80_body
    rw [if_pos (show nI i < nI t by rw [c_lt (by omega) (by omega)]; omega), if_pos rfl]
  | e + 1, t, ht, f + 1, hf', g, hg, hn => by
    have g6 := hp.2.1
    obtain ⟨c1, c2, c3, c4⟩ := gr.2 t (by omega)
    have lt := gr.lst hl t (by omega)
    rw [show D - t = D - 1 - t + 1 by omega] at lt
    have nq := nx.2.1 _ _ hn c1
    have q1 := LM_sh89 hp nx s hf (d := D - 1 - t) (by omega) hn lt c1 c2 c3 (LP6 f12_shortest_b80_body f) (nI i) (nI t) (W t) 0 (by omega) FU (FU_big (by omega))
    have ih := LM_sh80 hp nx hq s hf hD hl gr hi e (t + 1) (by omega) f (by omega) (W t) (fun _ => rfl) (by rw [c4]; exact nq)
    rw [c4, ← nI_1] at ih
    rw [LP6_s]
    have q2 := q1.trans ih
    generalize LP6 f12_shortest_b80_body f = K at q2 ⊢
    unfold f12_shortest_b80_body
    rw [if_neg (show ¬ nI i < nI t by rw [c_lt (by omega) (by omega)]; omega)]
    refine q2.trans ?_
    by_cases e0 : e = 0
    · rw [if_pos e0, if_neg (by omega), show t = i by omega]
    · rw [if_neg e0, if_neg (by omega)]
end SHORTM
