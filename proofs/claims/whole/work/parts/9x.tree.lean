/-! MACHINES: the way to the first good node is the least word -/
section TREE
variable {G q : Nat} {nb : Nat → Nat → Nat} {gd : Nat → Bool}
/-- a way along which each node was found first -/
def TP (G : Nat) (nb : Nat → Nat → Nat) (d : Nat) (W T : Nat → Nat) : Prop := T 0 = 0 ∧ ∀ s, s < d → W s < G ∧ T (s + 1) = nb (T s) (W s) ∧ T s < T (s + 1) ∧ ∀ a g, g < G → G * a + g < G * T s + W s → nb a g < T (s + 1)
theorem code_lt {a b g g' : Nat} (h : a < b) (hg : g < G) : G * a + g < G * b + g' := by
  have : G * a + G ≤ G * b := by
    rw [← Nat.mul_succ]
    exact Nat.mul_le_mul_left G h
  omega
theorem TP.inc {d : Nat} {W T : Nat → Nat} (h : TP G nb d W T) : ∀ s t, s ≤ t → t ≤ d → T s ≤ T t
  | s, 0, hs, _ => by rw [show s = 0 by omega]; exact Nat.le_refl _
  | s, t + 1, hs, ht => by
    by_cases e : s = t + 1
    · rw [e]
      exact Nat.le_refl _
    · exact Nat.le_trans (TP.inc h s t (by omega) (by omega)) (Nat.le_of_lt (h.2 t (by omega)).2.2.1)
/-- a way of any word -/
def WP1 (G : Nat) (nb : Nat → Nat → Nat) (d : Nat) (V N : Nat → Nat) : Prop := N 0 = 0 ∧ ∀ s, s < d → V s < G ∧ N (s + 1) = nb (N s) (V s)
theorem TP.short {d e : Nat} {W T V N : Nat → Nat} (h : TP G nb d W T) (h' : WP1 G nb e V N) : ∀ s, s < d → s ≤ e → N s < T (s + 1)
  | 0, h0, _ => by
    have a := (h.2 0 h0).2.2.1
    rw [h.1] at a
    rw [h'.1]
    exact a
  | s + 1, h0, he => by
    have ih := TP.short h h' s (by omega) (by omega)
    obtain ⟨v1, v2⟩ := h'.2 s (by omega)
    rw [v2]
    exact (h.2 (s + 1) h0).2.2.2 _ _ v1 (code_lt ih v1)
theorem TP.less {d : Nat} {W T V N : Nat → Nat} (h : TP G nb d W T) (h' : WP1 G nb d V N) {i : Nat} (hi : N (i + 1) < T (i + 1)) : ∀ t, i + 1 ≤ t → t ≤ d → N t < T t
  | 0, h1, _ => by omega
  | t + 1, h1, h2 => by
    by_cases e : t = i
    · rw [e]
      exact hi
    · have ih := TP.less h h' hi t (by omega) (by omega)
      obtain ⟨v1, v2⟩ := h'.2 t (by omega)
      rw [v2]
      exact (h.2 t (by omega)).2.2.2 _ _ v1 (code_lt ih v1)
theorem TP.rd {d : Nat} {W T : Nat → Nat} (h : TP G nb d W T) (hg : gd (T d) = true) : ∀ e s, s + e = d → rdB G nb gd e (T s) = true
  | 0, s, hs => by
    rw [show s = d by omega]
    exact hg
  | e + 1, s, hs => by
    obtain ⟨w1, w2, -⟩ := h.2 s (by omega)
    have ih := TP.rd h hg e (s + 1) (by omega)
    rw [w2] at ih
    exact any_in w1 ih
theorem gr_good {D k : Nat} {W N : Nat → Nat} (h : GRk G nb gd D k W N) (hl : lst G nb gd D k) : gd (N D) = true := by
  have := (h.lst hl D (Nat.le_refl _)).1
  rw [Nat.sub_self] at this
  exact this
/-- the first good node's way -/
theorem tree_sh {d : Nat} {W T : Nat → Nat} (h : TP G nb d W T) (hg : gd (T d) = true) (hf : ∀ k, k < T d → gd k = false) : lst G nb gd d 0 ∧ ∃ N, GRk G nb gd d 0 W N := by
  have r0 := h.rd hg d 0 (by omega)
  rw [h.1] at r0
  obtain ⟨D, hD, l⟩ := rd_lst d r0
  obtain ⟨V, N, gr⟩ := GRk_ex D 0 l
  have gN := gr_good gr l
  have wp : WP1 G nb D V N := ⟨gr.1, fun s hs => ⟨(gr.2 s hs).1, (gr.2 s hs).2.2.2⟩⟩
  have no : ¬ N D < T d := fun z => by
    have := hf _ z
    rw [gN] at this
    cases this
  have eD : D = d := by
    refine Classical.byContradiction fun ne => no ?_
    exact Nat.lt_of_lt_of_le (h.short wp D (by omega) (Nat.le_refl _)) (h.inc _ _ (by omega) (Nat.le_refl _))
  rw [eD] at l gr wp no
  have same : ∀ s, s ≤ d → N s = T s ∧ ∀ i, i < s → V i = W i := by
    intro s
    induction s with
    | zero => exact fun _ => ⟨gr.1.trans h.1.symm, fun i hi => absurd hi (Nat.not_lt_zero _)⟩
    | succ s ih =>
      intro hs
      obtain ⟨e1, e2⟩ := ih (by omega)
      obtain ⟨v1, v2, v3, v4⟩ := gr.2 s (by omega)
      obtain ⟨w1, w2, w3, w4⟩ := h.2 s (by omega)
      have rw' := h.rd hg (d - 1 - s) (s + 1) (by omega)
      have eq : V s = W s := by
        rcases Nat.lt_trichotomy (V s) (W s) with z | z | z
        · exfalso
          refine no (h.less wp (i := s) ?_ d (by omega) (Nat.le_refl _))
          rw [v4, e1]
          exact w4 _ _ v1 (by omega)
        · exact z
        · have := v3 _ z
          rw [e1, ← w2, rw'] at this
          cases this
      refine ⟨by rw [v4, w2, e1, eq], fun i hi => ?_⟩
      by_cases e : i = s
      · rw [e]
        exact eq
      · exact e2 i (by omega)
  refine ⟨l, N, gr.1, fun s hs => ?_⟩
  have e := (same d (Nat.le_refl _)).2 s hs
  rw [← e]
  exact gr.2 s hs
end TREE
