/-! WHETHER A PLACE IS AT A GOAL -/
def atK (P : PG) (p H : Nat) (s : Nat → Nat) (k : Nat) : Bool := (decide (kp P k = p) && (if km P k = 1 then decide (kn P k ≤ H) else decide (H = kn P k))) && (List.range (kn P k)).all fun i => decide (s (H - 1 - i) = ks P k i)
def atB (P : PG) (p H : Nat) (s : Nat → Nat) : Bool := (List.range (pK P)).any fun k => atK P p H s k
theorem atB_iff {P : PG} {p H : Nat} {s : Nat → Nat} : atB P p H s = true ↔ atT (gTG P) p H s := by
  unfold atB
  rw [any_iff]
  refine exists_congr fun k => and_congr Iff.rfl ?_
  unfold atK
  rw [Bool.and_eq_true, Bool.and_eq_true, decide_eq_true_iff, List.all_eq_true, and_assoc]
  refine and_congr Iff.rfl (and_congr ?_ ⟨fun h i hi => of_decide_eq_true (h i (List.mem_range.mpr hi)), fun h i hi => decide_eq_true (h i (List.mem_range.mp hi))⟩)
  show (if km P k = 1 then decide (kn P k ≤ H) else decide (H = kn P k)) = true ↔ if km P k = 1 then kn P k ≤ H else H = kn P k
  split <;> exact decide_eq_true_iff
theorem all_succ (f : Nat → Bool) (n : Nat) : (List.range (n + 1)).all f = ((List.range n).all f && f n) := by
  rw [List.range_succ, List.all_append]
  simp
theorem all_f {f : Nat → Bool} {n m : Nat} (h : (List.range n).all f = false) (k : n ≤ m) : (List.range m).all f = false := by
  rw [← Bool.not_eq_true] at h ⊢
  intro q
  exact h (List.all_eq_true.mpr fun x hx => List.all_eq_true.mp q x (List.mem_range.mpr (Nat.lt_of_lt_of_le (List.mem_range.mp hx) k)))
theorem bI_and1 {c : Bool} : (if bI c = 1 then (1 : Int32) else 0) = bI c := by cases c <;> rfl
section ISAT
variable {M : MM} {P : PG} {o : Nat}
theorem LM_isAt80 (w : Wl M) (hP : PgM M P o) (hp : WP P) {p H ra n0 k : Nat} {s : Nat → Nat} (hk : k < pK P) (hra : mK M ra = (0, n0)) (hH : H ≤ n0) (hn : n0 < 2 ^ 31) (hs : ∀ i, i < H → mI M ra i = nI (s i) ∧ s i < 6) (c : Bool) (hc : c = true → kn P k ≤ H) {K3 : MM → Nat → Int32 → Nat → Int32 → Int32 → Option (Int32 × MM)} :
    ∀ (d j : Nat), j + d = kn P k → ∀ f, d < f → LP9 (f12_isAt_b80_body K3) f M 86 (nI p) ra (nI H) (nI k) (nI (kn P k)) (bI (c && (List.range j).all fun i => decide (s (H - 1 - i) = ks P k i))) (nI j) = f12_isAt_b131 K3 M 86 (nI p) ra (nI H) (nI k) (bI (c && (List.range (kn P k)).all fun i => decide (s (H - 1 - i) = ks P k i)))
  | 0, j, hj, f + 1, _ => by
    have e : j = kn P k := by omega
    have h3 := (hp.2.2.2.2.2 k hk).2.1
    rw [e]
    show f12_isAt_b80_body _ _ _ _ _ _ _ _ _ _ _ = _
    generalize LP9 (f12_isAt_b80_body K3) f = K
    unfold f12_isAt_b80_body
    rw [if_pos (nI_le (Nat.le_refl _) (by omega))]
  | d + 1, j, hj, f + 1, hf => by
    have ih := LM_isAt80 w hP hp (p := p) hk hra hH hn hs c hc (K3 := K3) d (j + 1) (by omega) f (by omega)
    obtain ⟨-, h3, -, g4⟩ := hp.2.2.2.2.2 k hk
    have k4 := hp.2.2.2.1
    have g6 := hp.2.1
    show f12_isAt_b80_body _ _ _ _ _ _ _ _ _ _ _ = _
    generalize LP9 (f12_isAt_b80_body K3) f = K at ih ⊢
    unfold f12_isAt_b80_body f12_isAt_b123
    rw [if_neg (nI_ge (by omega) (by omega))]
    by_cases q : (c && (List.range j).all fun i => decide (s (H - 1 - i) = ks P k i)) = true
    · rw [q, bI_t, if_neg (by decide)]
      rw [Bool.and_eq_true] at q
      have hm := hc q.1
      obtain ⟨s1, s2⟩ := hs (H - 1 - j) (by omega)
      have gj := g4 j (by omega)
      have row := hP.kk k hk (3 + j) (by omega)
      rw [nI_sub1 (by omega), nI_subN (by omega), aA_e (by rw [hra]) (by rw [hra]; show H - 1 - j < n0; omega) (by omega), aO_86 w, r_86_4 w, lit_6, lit_3, nI_mulN, nI_add, nI_add, aA_90 w (by omega), nI_clamp (by omega), nI_clamp (by omega), s1, show 6 * k + 3 + j = 6 * k + (3 + j) by omega, row, nI_1]
      show (if nI (s (H - 1 - j)) = nI (ks P k j) then _ else _) = _
      simp only [c_eq (show s (H - 1 - j) < 2 ^ 31 by omega) (show ks P k j < 2 ^ 31 by omega)]
      rw [all_succ, q.2, q.1] at ih
      by_cases e : s (H - 1 - j) = ks P k j
      · rw [if_pos e]
        rw [decide_eq_true e] at ih
        rw [q.1]
        exact ih
      · rw [if_neg e]
        rw [decide_eq_false e] at ih
        rw [q.1]
        exact ih
    · rw [Bool.not_eq_true] at q
      rw [q, bI_f, if_pos rfl]
      have : (c && (List.range (kn P k)).all fun i => decide (s (H - 1 - i) = ks P k i)) = false := by
        cases c
        · rfl
        · rw [Bool.true_and] at q ⊢
          exact all_f q (by omega)
      rw [this]
      rfl
theorem LM_isAt3 (w : Wl M) (hP : PgM M P o) (hp : WP P) {p H ra n0 : Nat} {s : Nat → Nat} (hp5 : p < 5) (hra : mK M ra = (0, n0)) (hH : H ≤ n0) (hn : n0 < 2 ^ 31) (hs : ∀ i, i < H → mI M ra i = nI (s i) ∧ s i < 6) :
    ∀ (d j : Nat), j + d = pK P → ∀ f, d < f → (∀ k, k < j → atK P p H s k = false) → LP6 f12_isAt_b3_body f M 86 (nI p) ra (nI H) (nI j) = some (bI (atB P p H s), M)
  | 0, j, hj, f + 1, _, hno => by
    have e : j = pK P := by omega
    have k4 := hp.2.2.2.1
    show f12_isAt_b3_body _ _ _ _ _ _ _ = _
    generalize LP6 f12_isAt_b3_body f = K
    unfold f12_isAt_b3_body atB
    rw [aO_86 w, r_86_1 w, lit_3, aA_87 w (by omega), nI_clamp (by omega), hP.k, if_pos (nI_le (by omega) (by omega)), any_out (fun k hk => hno k (by omega))]
    rfl
  | d + 1, j, hj, f + 1, hf, hno => by
    have hjl : j < pK P := by omega
    have ih := LM_isAt3 w hP hp hp5 hra hH hn hs d (j + 1) (by omega) f (by omega)
    have k4 := hp.2.2.2.1
    have p5 := hp.1
    obtain ⟨g1, h3, hm, g4⟩ := hp.2.2.2.2.2 j hjl
    have r0 := hP.kk j hjl 0 (by omega)
    have r1 := hP.kk j hjl 1 (by omega)
    have r2 := hP.kk j hjl 2 (by omega)
    have inner : ∀ (K3 : MM → Nat → Int32 → Nat → Int32 → Int32 → Option (Int32 × MM)) (c : Bool), (c = true → kn P j ≤ H) → f12_isAt_b75 K3 M 86 (nI p) ra (nI H) (nI j) (nI (kn P j)) (bI c) = f12_isAt_b131 K3 M 86 (nI p) ra (nI H) (nI j) (bI (c && (List.range (kn P j)).all fun i => decide (s (H - 1 - i) = ks P j i))) := fun K3 c hc => by
      have q := LM_isAt80 w hP hp (p := p) hjl hra hH hn hs c hc (K3 := K3) (kn P j) 0 (by omega) FU (FU_big (by omega))
      rw [show (c && (List.range 0).all fun i => decide (s (H - 1 - i) = ks P j i)) = c by simp] at q
      exact q
    show f12_isAt_b3_body _ _ _ _ _ _ _ = _
    generalize LP6 f12_isAt_b3_body f = K at ih ⊢
    have fin : ∀ c : Bool, (c && (List.range (kn P j)).all fun i => decide (s (H - 1 - i) = ks P j i)) = atK P p H s j → f12_isAt_b131 K M 86 (nI p) ra (nI H) (nI j) (bI (c && (List.range (kn P j)).all fun i => decide (s (H - 1 - i) = ks P j i))) = some (bI (atB P p H s), M) := fun c e => by
      unfold f12_isAt_b131
      rw [e, nI_1]
      by_cases q : atK P p H s j = true
      · rw [q, bI_t, if_neg (by decide)]
        unfold atB
        rw [any_in hjl q]
        rfl
      · rw [Bool.not_eq_true] at q
        rw [q, bI_f, if_pos rfl]
        exact ih (fun k hk => by
          by_cases e : k = j
          · rw [e, q]
          · exact hno k (by omega))
    unfold f12_isAt_b3_body f12_isAt_b70 f12_isAt_b74
    rw [aO_86 w, r_86_1 w, lit_3, aA_87 w (by omega), nI_clamp (by omega), hP.k, if_neg (nI_ge (by omega) (by omega)), aO_86 w, r_86_4 w, lit_6, nI_mulN, nI_1, aA_90 w (by omega), nI_clamp (by omega), r1, bW_e, aO_86 w, aA_90 w (by omega), nI_clamp (by omega), show mI M 90 (6 * j) = nI (kp P j) from r0]
    show (if nI (kp P j) = nI p then (if nI H = nI (kn P j) then _ else if nI H ≤ nI (kn P j) then _ else _) else _) = _
    simp only [c_eq (show kp P j < 2 ^ 31 by omega) (show p < 2 ^ 31 by omega), c_eq (show H < 2 ^ 31 by omega) (show kn P j < 2 ^ 31 by omega), c_le (show H < 2 ^ 31 by omega) (show kn P j < 2 ^ 31 by omega)]
    have i0 := inner K false (fun q => by cases q)
    have i1 := inner K true
    rw [bI_f] at i0
    rw [bI_t] at i1
    by_cases c1 : kp P j = p
    · rw [if_pos c1]
      by_cases c2 : H = kn P j
      · rw [if_pos c2]
        refine Eq.trans (i1 (fun _ => by omega)) (fin true ?_)
        unfold atK
        rw [decide_eq_true c1, Bool.true_and, Bool.true_and]
        have : (if km P j = 1 then decide (kn P j ≤ H) else decide (H = kn P j)) = true := by
          split
          · exact decide_eq_true (by omega)
          · exact decide_eq_true c2
        rw [this, Bool.true_and]
      · rw [if_neg c2]
        by_cases c3 : H ≤ kn P j
        · rw [if_pos c3]
          refine Eq.trans i0 (fin false ?_)
          unfold atK
          have : (if km P j = 1 then decide (kn P j ≤ H) else decide (H = kn P j)) = false := by
            split
            · exact decide_eq_false (by omega)
            · exact decide_eq_false c2
          rw [this, Bool.and_false, Bool.false_and]
        · rw [if_neg c3, aO_86 w, lit_2, nI_add, aA_90 w (by omega), nI_clamp (by omega), r2]
          show (if nI (km P j) = 1 then _ else _) = _
          simp only [c_eq1 (show km P j < 2 ^ 31 by omega)]
          by_cases c4 : km P j = 1
          · rw [if_pos c4]
            refine Eq.trans (i1 (fun _ => by omega)) (fin true ?_)
            unfold atK
            rw [decide_eq_true c1, Bool.true_and, Bool.true_and, if_pos c4, decide_eq_true (show kn P j ≤ H by omega), Bool.true_and]
          · rw [if_neg c4]
            refine Eq.trans i0 (fin false ?_)
            unfold atK
            rw [if_neg c4, decide_eq_false c2, Bool.and_false, Bool.false_and]
    · rw [if_neg c1]
      refine Eq.trans i0 (fin false ?_)
      unfold atK
      rw [decide_eq_false c1, Bool.false_and, Bool.false_and, Bool.false_and]
theorem SM_isAt (w : Wl M) (hP : PgM M P o) (hp : WP P) {p H ra n0 : Nat} {s : Nat → Nat} (hp5 : p < 5) (hra : mK M ra = (0, n0)) (hH : H ≤ n0) (hn : n0 < 2 ^ 31) (hs : ∀ i, i < H → mI M ra i = nI (s i) ∧ s i < 6) : f12_isAt M 86 (nI p) ra (nI H) = some (bI (atB P p H s), M) :=
  LM_isAt3 w hP hp hp5 hra hH hn hs (pK P) 0 (by omega) FU (FU_big (by have := hp.2.2.2.1; omega)) (fun k hk => absurd hk (Nat.not_lt_zero k))
/-! the class -/
theorem L7_isAt71 {a1 : Nat} (w : Wl M) (hP : PgC M a1 P) (hp : WP P) {p H k b : Nat} {s : Nat → Nat} (hb : PlC M b p H s) (hs : ∀ i, i < H → s i < 6) (hk : k < pK P) (hm : kn P k ≤ H) :
    ∀ (d j : Nat), j + d = kn P k → ∀ f, d < f → ((List.range j).all fun i => decide (s (H - 1 - i) = ks P k i)) = true → LP6 f7_isAtGoal_b71_body f M a1 (nI k) b (nI (kn P k)) (nI j) = some (bI ((List.range (kn P k)).all fun i => decide (s (H - 1 - i) = ks P k i)), M)
  | 0, j, hj, f + 1, _, ha => by
    have e : j = kn P k := by omega
    have h3 := (hp.2.2.2.2.2 k hk).2.1
    rw [e] at ha
    rw [ha, e]
    show f7_isAtGoal_b71_body _ _ _ _ _ _ _ = _
    generalize LP6 f7_isAtGoal_b71_body f = K
    unfold f7_isAtGoal_b71_body
    rw [if_pos (nI_le (Nat.le_refl _) (by omega))]
    rfl
  | d + 1, j, hj, f + 1, hf, ha => by
    obtain ⟨-, h3, -, g4⟩ := hp.2.2.2.2.2 k hk
    have ih := L7_isAt71 w hP hp hb hs hk hm d (j + 1) (by omega) f (by omega)
    have g6 := hp.2.1
    have gj := g4 j (by omega)
    have sj := hs (H - 1 - j) (by omega)
    show f7_isAtGoal_b71_body _ _ _ _ _ _ _ = _
    generalize LP6 f7_isAtGoal_b71_body f = K at ih ⊢
    unfold f7_isAtGoal_b71_body
    rw [if_neg (nI_ge (by omega) (by omega)), Pl.o w hb.1, S6_top w hb (by omega), cI_some, hP.o w, lit_3, nI_add, S7_ofGoal w hP hk (by omega) hp, cI_some, nI_1]
    show (if nI (s (H - 1 - j)) = nI (ks P k j) then _ else _) = _
    simp only [c_eq (show s (H - 1 - j) < 2 ^ 31 by omega) (show ks P k j < 2 ^ 31 by omega)]
    by_cases e : s (H - 1 - j) = ks P k j
    · rw [if_pos e]
      exact ih (by rw [all_succ, ha, decide_eq_true e]; rfl)
    · rw [if_neg e, all_f (n := j + 1) (by rw [all_succ, decide_eq_false e, Bool.and_false]) (by omega)]
      rfl
theorem S7_isAtGoal {a1 : Nat} (w : Wl M) (hP : PgC M a1 P) (hp : WP P) {p H k b : Nat} {s : Nat → Nat} (hb : PlC M b p H s) (hs : ∀ i, i < H → s i < 6) (hp5 : p < 5) (hk : k < pK P) : f7_isAtGoal M a1 (nI k) b = some (bI (atK P p H s k), M) := by
  obtain ⟨g1, h3, hm, g4⟩ := hp.2.2.2.2.2 k hk
  have p5 := hp.1
  have pl := pcl_lt b
  have hH := hb.2.2.2.2.1
  have e46 : ∀ c : Bool, (c = true → kn P k ≤ H) → f7_isAtGoal_b46 M a1 (nI k) b (nI (kn P k)) (bI c) = some (bI ((decide (kp P k = p) && c) && (List.range (kn P k)).all fun i => decide (s (H - 1 - i) = ks P k i)), M) := fun c hc => by
    unfold f7_isAtGoal_b46
    cases c
    · rw [bI_f, if_pos rfl, Bool.and_false, Bool.false_and]
      rfl
    · rw [bI_t, if_neg (by decide), Pl.o w hb.1, hP.o w, show f7_ofGoal M a1 (nI k) 0 = some (nI (kp P k), M) from S7_ofGoal w hP hk (c := 0) (by omega) hp, cI_some, hb.2.2.1]
      simp only [c_eq (show p < 2 ^ 31 by omega) (show kp P k < 2 ^ 31 by omega)]
      by_cases e : p = kp P k
      · rw [if_pos e, decide_eq_true e.symm, Bool.true_and, Bool.true_and]
        exact L7_isAt71 w hP hp hb hs hk (hc rfl) (kn P k) 0 (by omega) FU (FU_big (by omega)) rfl
      · rw [if_neg e, decide_eq_false (fun q => e q.symm), Bool.false_and, Bool.false_and]
        rfl
  unfold f7_isAtGoal atK
  rw [hP.o w, show f7_ofGoal M a1 (nI k) 1 = some (nI (kn P k), M) from S7_ofGoal w hP hk (c := 1) (by omega) hp, cI_some, hP.o w, show f7_ofGoal M a1 (nI k) 2 = some (nI (km P k), M) from S7_ofGoal w hP hk (c := 2) (by omega) hp, cI_some, Pl.o w hb.1, hb.2.2.2.1]
  simp only [c_eq1 (show km P k < 2 ^ 31 by omega), c_lt (show H < 2 ^ 31 by omega) (show kn P k < 2 ^ 31 by omega), c_eq (show H < 2 ^ 31 by omega) (show kn P k < 2 ^ 31 by omega)]
  have t0 := e46 false (fun q => by cases q)
  have t1 := e46 true
  rw [bI_f] at t0
  rw [bI_t] at t1
  by_cases c : km P k = 1
  · rw [if_pos c, if_pos c]
    by_cases c2 : H < kn P k
    · rw [if_pos c2, t0, decide_eq_false (show ¬ kn P k ≤ H by omega)]
    · rw [if_neg c2, t1 (fun _ => by omega), decide_eq_true (show kn P k ≤ H by omega)]
  · rw [if_neg c, if_neg c, Pl.o w hb.1]
    by_cases c2 : H = kn P k
    · rw [if_pos c2, t1 (fun _ => by omega), decide_eq_true c2]
    · rw [if_neg c2, t0, decide_eq_false c2]
theorem L11_isAt {nw : NW} (h : CoC M P o nw) {p H : Nat} {s : Nat → Nat} (hn : nw = some (p, H, s)) : ∀ (d j : Nat), j + d = pK P → ∀ f, d < f → (∀ k, k < j → atK P p H s k = false) → LP3 f11_isAtGoal_b2_body f M 1 (nI j) = some (bI (atB P p H s), M)
  | 0, j, hj, f + 1, _, hno => by
    obtain ⟨a1, b1, b2, b3⟩ := h.2.2.2.1
    have w := h.w
    have k4 := h.p.2.2.2.1
    show f11_isAtGoal_b2_body _ _ _ _ = _
    generalize LP3 f11_isAtGoal_b2_body f = K
    unfold f11_isAtGoal_b2_body atB
    rw [aO_1 w, b1, b3.o w, b3.k, if_pos (nI_le (by omega) (by omega)), any_out (fun k hk => hno k (by omega))]
    rfl
  | d + 1, j, hj, f + 1, hf, hno => by
    obtain ⟨a1, b1, b2, b3⟩ := h.2.2.2.1
    have w := h.w
    have k4 := h.p.2.2.2.1
    have p5 := h.p.1
    have ih := L11_isAt h hn d (j + 1) (by omega) f (by omega)
    have hh := h.2.2.2.2.2.1
    have hw := h.2.2.2.2.2.2
    rw [hn] at hh hw
    have q := S7_isAtGoal w b3 h.p hh (fun i hi => Nat.lt_of_lt_of_le (hw.2.2 i hi) h.p.2.1) (show p < 5 from by have : p < pS P := hw.1; omega) (show j < pK P by omega)
    show f11_isAtGoal_b2_body _ _ _ _ = _
    generalize LP3 f11_isAtGoal_b2_body f = K at ih ⊢
    unfold f11_isAtGoal_b2_body
    rw [aO_1 w, b1, b3.o w, b3.k, if_neg (nI_ge (by omega) (by omega)), aO_1 w, aO_1 w, b3.o w, r_1_2 w, q, cI_some, nI_1]
    by_cases c : atK P p H s j = true
    · rw [c, bI_t, if_neg (by decide)]
      unfold atB
      rw [any_in (k := j) (by omega) c]
      rfl
    · rw [Bool.not_eq_true] at c
      rw [c, bI_f, if_pos rfl]
      exact ih (fun k hk => by
        by_cases e : k = j
        · rw [e, c]
        · exact hno k (by omega))
theorem S11_isAt {p H : Nat} {s : Nat → Nat} (h : CoC M P o (some (p, H, s))) : f11_isAtGoal M 1 = some (bI (atB P p H s), M) :=
  L11_isAt h rfl (pK P) 0 (by omega) FU (FU_big (by have := h.p.2.2.2.1; omega)) (fun k hk => absurd hk (Nat.not_lt_zero k))
end ISAT
