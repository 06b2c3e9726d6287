/-! NOW: runs, both sides -/
section RUNS
variable {P : PG} {o : Nat} {nw : NW}
def nthB (s l k : Nat) : Prop := k < 14 ∧ s.testBit k = true ∧ cntB s.testBit k = l
theorem cntB_s (f : Nat → Bool) (k : Nat) : cntB f (k + 1) = cntB f k + (if f k = true then 1 else 0) := rfl
theorem cntB_le2 (f : Nat → Bool) : ∀ {a b : Nat}, a ≤ b → cntB f a ≤ cntB f b
  | a, 0, h => by rw [show a = 0 by omega]; exact Nat.le_refl _
  | a, b + 1, h => by
    by_cases e : a = b + 1
    · rw [e]
      exact Nat.le_refl _
    · exact Nat.le_trans (cntB_le2 f (show a ≤ b by omega)) (by rw [cntB_s]; exact Nat.le_add_right _ _)
theorem nthB_uniq {s l k k' : Nat} (h : nthB s l k) (h' : nthB s l k') : k = k' := by
  rcases Nat.lt_trichotomy k k' with z | z | z
  · have := cntB_le2 s.testBit (show k + 1 ≤ k' from z)
    rw [cntB_s, if_pos h.2.1, h.2.2, h'.2.2] at this
    omega
  · exact z
  · have := cntB_le2 s.testBit (show k' + 1 ≤ k from z)
    rw [cntB_s, if_pos h'.2.1, h.2.2, h'.2.2] at this
    omega
theorem nthB_ex {s l : Nat} : ∀ n, n ≤ 14 → l < cntB s.testBit n → ∃ k, nthB s l k
  | 0, _, h => absurd h (Nat.not_lt_zero _)
  | n + 1, hn, h => by
    by_cases c : l < cntB s.testBit n
    · exact nthB_ex n (by omega) c
    · rw [cntB_s] at h
      by_cases t : s.testBit n = true
      · rw [if_pos t] at h
        exact ⟨n, by omega, t, by omega⟩
      · rw [if_neg t] at h
        omega
theorem cnt_pos {s : Nat} (h : s < 2 ^ 14) (h0 : s ≠ 0) : 0 < cntB s.testBit 14 := by
  refine Nat.pos_of_ne_zero (fun z => h0 (Nat.eq_of_testBit_eq (fun y => ?_)))
  rw [Nat.zero_testBit]
  by_cases c : y < 14
  · cases t : s.testBit y with
    | false => rfl
    | true =>
      have := cntB_le2 s.testBit (show y + 1 ≤ 14 from c)
      rw [cntB_s, if_pos t] at this
      omega
  · exact Nat.testBit_lt_two_pow (Nat.lt_of_lt_of_le h (Nat.pow_le_pow_right (by decide) (by omega)))
def drV (v : Int32) : Int32 := v * 1103515245 + 12345
def drN (v : Int32) : Nat := (ushr v (16 : Int32)).toNatClampNeg
theorem drN_e (v : Int32) : ushr v (16 : Int32) = nI (drN v) ∧ drN v < 65536 := by
  obtain ⟨n, hn, e⟩ : ∃ n, n < 2 ^ 32 ∧ v = nI n := ⟨v.toUInt32.toNat, v.toUInt32.toNat_lt, by
    apply Int32.toBitVec_inj.mp
    apply BitVec.eq_of_toNat_eq
    show _ = (Int32.ofNat _).toBitVec.toNat
    rw [Int32.toBitVec_ofNat', BitVec.toNat_ofNat]
    exact (Nat.mod_eq_of_lt v.toUInt32.toNat_lt).symm⟩
  have lt : n >>> 16 < 65536 := by
    rw [Nat.shiftRight_eq_div_pow]
    omega
  unfold drN
  rw [e, show (16 : Int32) = nI 16 from rfl, nI_ushr hn (by decide), nI_clamp (by omega)]
  exact ⟨rfl, lt⟩
theorem stpN_some {k : Nat} (h : nw ≠ none) : stpN P k nw ≠ none := by
  cases nw with
  | none => exact absurd rfl h
  | some q => exact fun z => by cases z
/-- what a run does -/
def RunA (P : PG) (o : Nat) : Nat → Int32 → NW → Nat → NW → Prop
  | 0, _, nw, d, nw' => d = 0 ∧ nw' = nw
  | e + 1, v, nw, d, nw' => (canN P o nw = 0 → d = 0 ∧ nw' = nw) ∧ (canN P o nw ≠ 0 → ∃ k d', nthB (canN P o nw) (drN (drV v) % cntB (canN P o nw).testBit 14) k ∧ d = d' + 1 ∧ RunA P o e (drV v) (stpN P k nw) d' nw')
theorem RunA_eq : ∀ {e : Nat} {v : Int32} {nw : NW} {d d2 : Nat} {nw1 nw2 : NW}, RunA P o e v nw d nw1 → RunA P o e v nw d2 nw2 → d = d2 ∧ nw1 = nw2
  | 0, _, _, _, _, _, _, h, h' => ⟨h.1.trans h'.1.symm, h.2.trans h'.2.symm⟩
  | e + 1, v, nw, d, d2, nw1, nw2, h, h' => by
    by_cases c : canN P o nw = 0
    · obtain ⟨a1, a2⟩ := h.1 c
      obtain ⟨b1, b2⟩ := h'.1 c
      exact ⟨a1.trans b1.symm, a2.trans b2.symm⟩
    · obtain ⟨k, d', k1, k2, k3⟩ := h.2 c
      obtain ⟨l, e', l1, l2, l3⟩ := h'.2 c
      have := nthB_uniq k1 l1
      rw [← this] at l3
      obtain ⟨z1, z2⟩ := RunA_eq k3 l3
      exact ⟨by omega, z2⟩
theorem L11_bn4 {M : MM} {s l k0 : Nat} (hs : s < 2 ^ 14) (hk : nthB s l k0) : ∀ (e k : Nat), k + e = k0 → ∀ f, e < f → LP4 f11_bitByNumber_b4_body f M (nI s) (nI (l - cntB s.testBit k)) (nI k) = some (nI k0, M)
  | 0, k, he, f + 1, _ => by
    obtain ⟨h1, h2, h3⟩ := hk
    have e : k = k0 := by omega
    rw [e, h3, Nat.sub_self, LP4_s]
    generalize LP4 f11_bitByNumber_b4_body f = K
    unfold f11_bitByNumber_b4_body
    rw [show (14 : Int32) = nI 14 from rfl, if_neg (nI_ge h1 (by omega)), bU (by omega) (by omega), h2, if_pos (show bI true = 1 from rfl), if_pos (show nI 0 = 0 from rfl)]
  | e + 1, k, he, f + 1, hf => by
    obtain ⟨h1, h2, h3⟩ := id hk
    have ih := L11_bn4 (M := M) hs hk e (k + 1) (by omega) f (by omega)
    have le := cntB_le2 s.testBit (show k + 1 ≤ k0 by omega)
    rw [h3] at le
    rw [← ih, LP4_s]
    generalize LP4 f11_bitByNumber_b4_body f = K
    unfold f11_bitByNumber_b4_body f11_bitByNumber_b28
    rw [show (14 : Int32) = nI 14 from rfl, if_neg (nI_ge (by omega) (by omega)), bU (by omega) (by omega)]
    rw [cntB_s] at le ⊢
    have lb : l ≤ 14 := by
      have := cntB_le s.testBit k0
      omega
    by_cases t : s.testBit k = true
    · rw [if_pos t] at le ⊢
      rw [t, if_pos (show bI true = 1 from rfl), if_neg (by rw [c_eq0 (by omega)]; omega), nI_m1 (by omega), nI_1, show l - cntB s.testBit k - 1 = l - (cntB s.testBit k + 1) by omega]
    · rw [if_neg t]
      rw [Bool.not_eq_true] at t
      rw [t, if_neg (show ¬ bI false = 1 by decide), nI_1, Nat.add_zero (cntB s.testBit k)]
theorem L11_run43 {M0 : MM} {n : Nat} (hn : n ≤ 100) : ∀ (e i : Nat), i + e = n → ∀ f, e < f → ∀ M v nw, CoC M P o nw → Sm [23, 25] [] M0 M → ∃ M' d nw', LP5 f11_run_b43_body f M 1 (nI n) v (nI i) = some (nI (i + d), M') ∧ RunA P o e v nw d nw' ∧ Sm [23, 25] [] M0 M' ∧ CoC M' P o nw' ∧ (nw ≠ none → nw' ≠ none)
  | 0, i, hi, f + 1, _, M, v, nw, h, s => by
    have e : i = n := by omega
    refine ⟨M, 0, nw, ?_, ⟨rfl, rfl⟩, s, h, id⟩
    rw [e, LP5_s]
    generalize LP5 f11_run_b43_body f = K
    unfold f11_run_b43_body
    rw [if_pos (nI_le (Nat.le_refl _) (by omega))]
    rfl
  | e + 1, i, hi, f + 1, hf, M, v, nw, h, s => by
    have w := h.1
    have hp := h.2.1
    have cl : canN P o nw < 2 ^ 14 := canN_lt hp
    have cb := cntB_le (canN P o nw).testBit 14
    by_cases c : canN P o nw = 0
    · refine ⟨M, 0, nw, ?_, ⟨fun _ => ⟨rfl, rfl⟩, fun z => absurd c z⟩, s, h, id⟩
      have c0 : cntB (canN P o nw).testBit 14 = 0 := by rw [c]; rfl
      rw [LP5_s]
      generalize LP5 f11_run_b43_body f = K
      unfold f11_run_b43_body
      rw [if_neg (nI_ge (by omega) (by omega)), aO_1 w, S11_can h, cI_some, S_bitCount cl, cI_some, c0, if_pos (show nI 0 = 0 from rfl)]
      rfl
    · have cp := cnt_pos cl c
      obtain ⟨d1, d2⟩ := drN_e (drV v)
      obtain ⟨C, hC⟩ : ∃ C, C = cntB (canN P o nw).testBit 14 := ⟨_, rfl⟩
      rw [← hC] at cp cb
      obtain ⟨l, hl⟩ : ∃ l, l = drN (drV v) % C := ⟨_, rfl⟩
      have ml : l < C := by rw [hl]; exact Nat.mod_lt _ cp
      obtain ⟨k, hk⟩ := nthB_ex 14 (Nat.le_refl _) (show l < cntB (canN P o nw).testBit 14 by rw [← hC]; exact ml)
      have kb : (decide (k < pR P) && canB P o nw k) = true := by
        have := hk.2.1
        unfold canN at this
        rw [bsN_bit] at this
        exact this
      rw [Bool.and_eq_true, decide_eq_true_eq] at kb
      obtain ⟨M1, b1, b2, b3, b4⟩ := S11_stepTo h kb.1 kb.2
      obtain ⟨M', d, nw', k1, k2, k3, k4, k5⟩ := L11_run43 hn e (i + 1) (by omega) f (by omega) M1 (drV v) _ b3 (s.trans b2)
      refine ⟨M', d + 1, nw', ?_, ⟨fun z => absurd z c, fun _ => ⟨k, d, by rw [← hC, ← hl]; exact hk, rfl, k2⟩⟩, k3, k4, fun z => k5 (stpN_some z)⟩
      have bn := L11_bn4 (M := M) cl hk k 0 (by omega) FU (FU_big (by have := hk.1; omega))
      rw [show cntB (canN P o nw).testBit 0 = 0 from rfl, Nat.sub_zero] at bn
      have bn' : f11_bitByNumber M (nI (canN P o nw)) (nI l) = some (nI k, M) := bn
      rw [show i + (d + 1) = i + 1 + d by omega, ← k1, LP5_s]
      generalize LP5 f11_run_b43_body f = K
      unfold f11_run_b43_body
      rw [if_neg (nI_ge (by omega) (by omega)), aO_1 w, S11_can h, cI_some, S_bitCount cl, cI_some, ← hC, if_neg (by rw [c_eq0 (by omega)]; omega), bW_e, aO_1 w, aO_1 w, gd_e (by rw [c_eq0 (by omega)]; omega), ← drV, d1, nI_mod (by omega) (by omega) cp, ← hl, bn', cI_some, r_1_2 w, aO_23 w, b1, cV_some, nI_1]
def runB (y : Int32) : Prop := ∃ n, 1 ≤ n ∧ n ≤ 100 ∧ y = nI n
theorem runB_of {y : Int32} (h1 : ¬ y < 1) (h2 : y ≤ 100) : runB y := by
  obtain ⟨n, hn, rfl⟩ := nI_of (show ¬ y < 0 from fun z => h1 (by
    rw [Int32.lt_iff_toInt_lt] at z ⊢
    have : (0 : Int32).toInt = 0 := rfl
    have : (1 : Int32).toInt = 1 := rfl
    omega))
  rw [show (1 : Int32) = nI 1 from rfl, c_lt hn (by omega)] at h1
  rw [show (100 : Int32) = nI 100 from rfl, c_le hn (by omega)] at h2
  exact ⟨n, by omega, h2, rfl⟩
theorem S11_run {M : MM} {n : Nat} {A : Nat → NW × Nat} (h : CoC M P o nw) (ha : ActC M n A) (hA : ActW P n A) (x y : Int32) : ∃ M' r, f11_run M 1 x y = some (r, M') ∧ (nw = none ∨ ¬ runB y → r = -1 ∧ M' = M) ∧ ∀ m, 1 ≤ m → m ≤ 100 → y = nI m → nw ≠ none → ∃ d nw', r = nI d ∧ RunA P o m x nw d nw' ∧ Sm [23, 25, 29, 31] [] M M' ∧ CoC M' P o nw' ∧ ActC M' (kpN n) (kpA n A (nw, o)) := by
  have w := h.1
  have hp := h.2.1
  have hn := S6_isNone w h.2.2.2.2.2.1 h.2.2.2.2.2.2 hp
  unfold f11_run
  rw [aO_1 w, r_1_2 w, aO_23 w, hn, cI_some]
  by_cases c : nw = none
  · rw [c, if_neg (show ¬ bI (Option.isNone (none : NW)) = 0 by decide)]
    exact ⟨M, -1, rfl, fun _ => ⟨rfl, rfl⟩, fun m _ _ _ z => absurd rfl z⟩
  · have isn : nw.isNone = false := by
      cases nw with
      | none => exact absurd rfl c
      | some q => rfl
    rw [isn, if_pos (show bI false = 0 from rfl)]
    by_cases c1 : y < 1
    · rw [if_pos c1]
      refine ⟨M, -1, rfl, fun _ => ⟨rfl, rfl⟩, fun m h1 h2 e _ => ?_⟩
      rw [e, show (1 : Int32) = nI 1 from rfl, c_lt (by omega) (by omega)] at c1
      omega
    · rw [if_neg c1]
      by_cases c2 : y ≤ 100
      · obtain ⟨m, m1, m2, rfl⟩ := runB_of c1 c2
        obtain ⟨M1, b1, b2, b3⟩ := S0_keep (o := o) w h.2.2.2.2.2.1 h.2.2.2.2.2.2 ha hA
        have h1 : CoC M1 P o nw := h.sm b2 (by rw [b2.i 1 (by decide)]) (by decide)
        have w1 := h1.1
        obtain ⟨M2, d, nw', k1, k2, k3, k4, k5⟩ := L11_run43 (M0 := M1) m2 m 0 (by omega) FU (FU_big (by omega)) M1 x nw h1 (Sm.rfl _ _ _)
        rw [Nat.zero_add] at k1
        rw [if_pos c2, aO_1 w, aO_1 w, aO_1 w, r_1_4 w, aO_29 w, r_1_2 w, h.2.2.2.2.1, b1, cV_some]
        refine ⟨M2, nI d, k1, fun z => ?_, fun m' h1 h2 e _ => ?_⟩
        · rcases z with z | z
          · exact absurd z c
          · exact absurd ⟨m, m1, m2, rfl⟩ z
        · rw [nI_eq (by omega) (by omega)] at e
          rw [← e]
          exact ⟨d, nw', rfl, k2, (b2.more (by decide) (by decide)).trans (k3.more (by decide) (by decide)), k4, b3.sm k3 (by decide)⟩
      · rw [if_neg c2]
        refine ⟨M, -1, rfl, fun _ => ⟨rfl, rfl⟩, fun m h1 h2 e _ => ?_⟩
        rw [e, show (100 : Int32) = nI 100 from rfl, c_le (by omega) (by omega)] at c2
        omega
end RUNS
