/-! NOW: runs at the reference -/
section RUNM
variable {P : PG} {o : Nat} {nw : NW}
theorem LM_ru103 {M : MM} {s l k0 : Nat} (hs : s < 2 ^ 14) (hk : nthB s l k0) (K39 : MM → Nat → Int32 → Int32 → Int32 → Int32 → Option (Int32 × MM)) (y v dn : Int32) : ∀ (e k : Nat), k + e = k0 → ∀ f, e < f → LP8 (f12_run_b103_body K39) f M 86 y v dn (nI s) (nI (l - cntB s.testBit k)) (nI k) = (aO M 86 12 <| cV (f12_does M 86 (nI k0)) fun M147 => aO M147 86 12 <| cI (f12_allThatCan M147 86) fun r154 M154 => K39 M154 86 y v (dn + (1 : Int32)) r154)
  | 0, k, he, f + 1, _ => by
    obtain ⟨h1, h2, h3⟩ := hk
    have e : k = k0 := by omega
    rw [e, h3, Nat.sub_self, LP8_s]
    generalize LP8 (f12_run_b103_body K39) f = K
    unfold f12_run_b103_body
    rw [SM_isOf (by omega) (by omega), cI_some, h2, if_neg (show ¬ bI true = 0 by decide), if_pos (show nI 0 ≤ 0 by decide)]
  | e + 1, k, he, f + 1, hf => by
    obtain ⟨h1, h2, h3⟩ := id hk
    have ih := LM_ru103 (M := M) hs hk K39 y v dn e (k + 1) (by omega) f (by omega)
    have le := cntB_le2 s.testBit (show k + 1 ≤ k0 by omega)
    rw [h3] at le
    rw [← ih, LP8_s]
    generalize LP8 (f12_run_b103_body K39) f = K
    unfold f12_run_b103_body f12_run_b118 f12_run_b135
    rw [cntB_s] at le ⊢
    have lb : l ≤ 14 := by
      have := cntB_le s.testBit k0
      omega
    rw [SM_isOf (by omega) (by omega), cI_some, SM_isOf (by omega) (by omega), cI_some]
    by_cases t : s.testBit k = true
    · rw [if_pos t] at le ⊢
      rw [t, if_neg (show ¬ bI true = 0 by decide), if_neg (show ¬ nI (l - cntB s.testBit k) ≤ 0 by rw [show (0 : Int32) = nI 0 from rfl]; exact nI_ge (by omega) (by omega)), if_neg (show ¬ bI true = 0 by decide), bW_e, nI_sub1 (by omega), nI_1, show l - cntB s.testBit k - 1 = l - (cntB s.testBit k + 1) by omega]
    · rw [if_neg t]
      rw [Bool.not_eq_true] at t
      rw [t, if_pos (show bI false = 0 from rfl), if_pos (show bI false = 0 from rfl), bW_e, show (0 : Int32) = nI 0 from rfl, nI_subN (Nat.zero_le _), Nat.sub_zero, nI_1, Nat.add_zero (cntB s.testBit k)]
theorem LM_ru56 {M : MM} {s : Nat} (hs : s < 2 ^ 14) (K39 : MM → Nat → Int32 → Int32 → Int32 → Int32 → Option (Int32 × MM)) (y v dn : Int32) : ∀ (e k : Nat), k + e = 14 → ∀ f, e < f → LP8 (f12_run_b56_body K39) f M 86 y v dn (nI s) (nI (cntB s.testBit k)) (nI k) = (gd (¬ nI (cntB s.testBit 14) = 0) <| f12_run_b103 K39 M 86 y (drV v) dn (nI s) ((ushr (drV v) (16 : Int32)) - (ushr (drV v) (16 : Int32)) / nI (cntB s.testBit 14) * nI (cntB s.testBit 14)) 0)
  | 0, k, he, f + 1, _ => by
    have e : k = 14 := by omega
    rw [e, LP8_s]
    generalize LP8 (f12_run_b56_body K39) f = K
    generalize cntB s.testBit 14 = C
    unfold f12_run_b56_body
    rw [show (14 : Int32) = nI 14 from rfl, if_pos (nI_le (Nat.le_refl _) (by omega)), bW_e, ← drV]
    generalize drV v = u
    rw [bW_e]
  | e + 1, k, he, f + 1, hf => by
    have ih := LM_ru56 (M := M) hs K39 y v dn e (k + 1) (by omega) f (by omega)
    rw [← ih, LP8_s]
    generalize LP8 (f12_run_b56_body K39) f = K
    unfold f12_run_b56_body
    rw [show (14 : Int32) = nI 14 from rfl, if_neg (nI_ge (by omega) (by omega)), bS (by omega) (by omega), bW_e, cntB_s, nI_1]
    by_cases t : s.testBit k = true
    · rw [if_pos t, t, show bI true = nI 1 from rfl, nI_add]
    · rw [if_neg t]
      rw [Bool.not_eq_true] at t
      rw [t, show bI false = nI 0 from rfl, nI_add]
theorem LM_ru39 {M0 : MM} (a0 : AlM M0 P o nw) {n : Nat} (hn : n ≤ 100) : ∀ (e i : Nat), i + e = n → ∀ f, e < f → ∀ M v nw1, AlM M P o nw1 → Sm [86, 92] [] M0 M → (∀ j, j ≠ 20 → j ≠ 21 → mI M 86 j = mI M0 86 j) → ∃ M' d nw', LP6 f12_run_b39_body f M 86 (nI n) v (nI i) (nI (canN P o nw1)) = some (nI (i + d), M') ∧ RunA P o e v nw1 d nw' ∧ Sm [86, 92] [] M0 M' ∧ (∀ j, j ≠ 20 → j ≠ 21 → mI M' 86 j = mI M0 86 j) ∧ AlM M' P o nw'
  | 0, i, hi, f + 1, _, M, v, nw1, h, s, fl => by
    have e : i = n := by omega
    refine ⟨M, 0, nw1, ?_, ⟨rfl, rfl⟩, s, fl, h⟩
    rw [e, LP6_s]
    generalize LP6 f12_run_b39_body f = K
    unfold f12_run_b39_body
    rw [if_pos (nI_le (Nat.le_refl _) (by omega))]
    rfl
  | e + 1, i, hi, f + 1, hf, M, v, nw1, h, s, fl => by
    have w := h.1.1
    have hp := h.1.2.1
    have cl : canN P o nw1 < 2 ^ 14 := canN_lt hp
    have cb := cntB_le (canN P o nw1).testBit 14
    by_cases c : canN P o nw1 = 0
    · refine ⟨M, 0, nw1, ?_, ⟨fun _ => ⟨rfl, rfl⟩, fun z => absurd c z⟩, s, fl, h⟩
      rw [LP6_s]
      generalize LP6 f12_run_b39_body f = K
      unfold f12_run_b39_body
      rw [if_neg (nI_ge (by omega) (by omega)), c, if_pos (show nI 0 = 0 from rfl)]
      rfl
    · have cp := cnt_pos cl c
      obtain ⟨d1, d2⟩ := drN_e (drV v)
      obtain ⟨C, hC⟩ : ∃ C, C = cntB (canN P o nw1).testBit 14 := ⟨_, rfl⟩
      rw [← hC] at cp cb
      obtain ⟨l, hl⟩ : ∃ l, l = drN (drV v) % C := ⟨_, rfl⟩
      have ml : l < C := by rw [hl]; exact Nat.mod_lt _ cp
      obtain ⟨k, hk⟩ := nthB_ex 14 (Nat.le_refl _) (show l < cntB (canN P o nw1).testBit 14 by rw [← hC]; exact ml)
      have kb : (decide (k < pR P) && canB P o nw1 k) = true := by
        have := hk.2.1
        unfold canN at this
        rw [bsN_bit] at this
        exact this
      rw [Bool.and_eq_true, decide_eq_true_eq] at kb
      obtain ⟨M1, b1, b2, b3, b4, b5⟩ := SM_does h.1 kb.1 kb.2
      have a1 : AlM M1 P o (stpN P k nw1) := h.now b2 (by decide) (by decide) (fun j hj => b3 j (by omega) (by omega)) b4 b5.2.2.2.2.2.1
      have w1 := a1.1.1
      obtain ⟨M', d, nw', k1, k2, k3, k4, k5⟩ := LM_ru39 a0 hn e (i + 1) (by omega) f (by omega) M1 (drV v) _ a1 (s.trans b2) (fun j h1 h2 => (b3 j h1 h2).trans (fl j h1 h2))
      refine ⟨M', d + 1, nw', ?_, ⟨fun z => absurd z c, fun _ => ⟨k, d, by rw [← hC, ← hl]; exact hk, rfl, k2⟩⟩, k3, k4, k5⟩
      have bn := LM_ru103 (M := M) cl hk (LP6 f12_run_b39_body f) (nI n) (drV v) (nI i) k 0 (by omega) FU (FU_big (by have := hk.1; omega))
      rw [show cntB (canN P o nw1).testBit 0 = 0 from rfl, Nat.sub_zero] at bn
      have bn' : f12_run_b103 (LP6 f12_run_b39_body f) M 86 (nI n) (drV v) (nI i) (nI (canN P o nw1)) (nI l) 0 = _ := bn
      have cn := LM_ru56 (M := M) cl (LP6 f12_run_b39_body f) (nI n) v (nI i) 14 0 (by omega) FU (FU_big (by omega))
      rw [show cntB (canN P o nw1).testBit 0 = 0 from rfl, ← hC, gd_e (by rw [c_eq0 (by omega)]; omega), d1, nI_mod (by omega) (by omega) cp, ← hl, bn', aO_86 w, b1, cV_some, aO_86 w1, SM_allThatCan a1.1, cI_some, nI_1] at cn
      have cn' : f12_run_b56 (LP6 f12_run_b39_body f) M 86 (nI n) v (nI i) (nI (canN P o nw1)) 0 0 = _ := cn
      rw [show i + (d + 1) = i + 1 + d by omega, ← k1, ← cn', LP6_s]
      generalize LP6 f12_run_b39_body f = K
      unfold f12_run_b39_body
      rw [if_neg (nI_ge (by omega) (by omega)), if_neg (by rw [c_eq0 (by omega)]; exact c)]
theorem SM_run {M : MM} {n : Nat} {A : Nat → NW × Nat} (h : AlM M P o nw) (ha : ActM M n A) (hA : ActW P n A) (x y : Int32) : ∃ M' r, f12_run M 86 x y = some (r, M') ∧ (nw = none ∨ ¬ runB y → r = -1 ∧ M' = sI M 86 0 0) ∧ ∀ m, 1 ≤ m → m ≤ 100 → y = nI m → nw ≠ none → ∃ d nw', r = nI d ∧ RunA P o m x nw d nw' ∧ Sm [86, 92, 94] [] M M' ∧ (∀ j, j ≠ 0 → j ≠ 20 → j ≠ 21 → j ≠ 23 → mI M' 86 j = mI M 86 j) ∧ AlM M' P o nw' ∧ ActM M' (kpN n) (kpA n A (nw, o)) := by
  have w := h.1.1
  have w0 : Wl (sI M 86 0 0) := w
  have h0 := h.1.th 0
  unfold f12_run
  rw [aO_86 w, bM_e, aO_86 w0]
  by_cases c : nw = none
  · have e19 : mI (sI M 86 0 0) 86 19 = 0 := by
      have := h0.2.2.2.2.1
      rw [c] at this
      exact this
    rw [if_pos e19]
    exact ⟨_, -1, rfl, fun _ => ⟨rfl, rfl⟩, fun m _ _ _ z => absurd c z⟩
  · have e19 : mI (sI M 86 0 0) 86 19 = 1 := by
      have := h0.2.2.2.2.1
      cases nw with
      | none => exact absurd rfl c
      | some q => exact this.1
    rw [if_neg (by rw [e19]; decide), SM_in, cI_some]
    by_cases c1 : y < 1
    · rw [decide_eq_true c1, Bool.not_true, Bool.false_and, if_pos (show bI false = 0 from rfl)]
      refine ⟨_, -1, rfl, fun _ => ⟨rfl, rfl⟩, fun m h1 h2 e _ => ?_⟩
      rw [e, show (1 : Int32) = nI 1 from rfl, c_lt (by omega) (by omega)] at c1
      omega
    · rw [decide_eq_false c1, Bool.not_false, Bool.true_and]
      by_cases c2 : y ≤ 100
      · obtain ⟨m, m1, m2, rfl⟩ := runB_of c1 c2
        obtain ⟨M1, b1, b2, b3, b4⟩ := SM_keep (o := o) w0 h0.2.2.2.2.1 h0.2.2.2.2.2.1 h0.2.2.2.1.1 (ha.th 0) hA
        have a1 : AlM M1 P o nw := (h.th 0).now b2 (by decide) (by decide) (fun j hj => b3 j (by omega)) (h0.2.2.2.2.1.sm b2 (fun j h1 h2 => b3 j (by omega)) (by decide)) h0.2.2.2.2.2.1
        have w1 := a1.1.1
        obtain ⟨M2, d, nw', k1, k2, k3, k4, k5⟩ := LM_ru39 a1 m2 m 0 (by omega) FU (FU_big (by omega)) M1 x nw a1 (Sm.rfl _ _ _) (fun _ _ _ => rfl)
        rw [Nat.zero_add] at k1
        have nl : ¬ (100 : Int32) < nI m := by
          rw [show (100 : Int32) = nI 100 from rfl, c_lt (by omega) (by omega)]
          omega
        rw [decide_eq_false nl, Bool.not_false, if_neg (show ¬ bI true = 0 by decide), aO_86 w0, b1, cV_some, aO_86 w1, SM_allThatCan a1.1, cI_some]
        refine ⟨M2, nI d, k1, fun z => ?_, fun m' h1 h2 e _ => ?_⟩
        · rcases z with z | z
          · exact absurd z c
          · exact absurd ⟨m, m1, m2, rfl⟩ z
        · rw [nI_eq (by omega) (by omega)] at e
          rw [← e]
          exact ⟨d, nw', rfl, k2, ((th_sm.more (by decide) (by decide)).trans (b2.more (by decide) (by decide))).trans (k3.more (by decide) (by decide)), fun j h1 h2 h3 h4 => by rw [k4 j h2 h3, b3 j h4, th_f h1], k5, b4.sm k3 (k4 23 (by decide) (by decide)) (by decide)⟩
      · have gt : (100 : Int32) < y := Int32.not_le.mp c2
        rw [decide_eq_true gt, Bool.not_true, if_pos (show bI false = 0 from rfl)]
        refine ⟨_, -1, rfl, fun _ => ⟨rfl, rfl⟩, fun m h1 h2 e _ => ?_⟩
        rw [e, show (100 : Int32) = nI 100 from rfl, c_le (by omega) (by omega)] at c2
        omega
end RUNM
