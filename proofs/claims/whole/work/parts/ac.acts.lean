/-! ACTS: kept and taken back, at the class -/
section ACTSC
variable {P : PG} {o : Nat} {nw : NW}
def SlN (row : Nat → Int32) (b : Nat) : NW → Prop
  | none => row b = -1 ∧ row (b + 1) = nI 0
  | some q => row b = nI q.1 ∧ row (b + 1) = nI q.2.1 ∧ ∀ i, i < q.2.1 → row (b + 3 + i) = nI (q.2.2 i)
def SlC (row : Nat → Int32) (b : Nat) (x : NW × Nat) : Prop := row (b + 2) = nI x.2 ∧ SlN row b x.1
def ActC (M : MM) (n : Nat) (A : Nat → NW × Nat) : Prop := ∃ old, old < 12 ∧ mI M 29 1 = nI old ∧ mI M 29 2 = nI n ∧ n ≤ 12 ∧ ∀ j, j < n → SlC (mI M 31) (43 * ((old + j) % 12)) (A j)
def ActW (P : PG) (n : Nat) (A : Nat → NW × Nat) : Prop := ∀ j, j < n → WN P (A j).1 ∧ (A j).2 < 2 ^ 14
def kpN (n : Nat) : Nat := if n = 12 then 12 else n + 1
def kpA (n : Nat) (A : Nat → NW × Nat) (x : NW × Nat) : Nat → NW × Nat := if n = 12 then upx (fun j => A (j + 1)) 11 x else upx A n x
theorem ActW.kp {n : Nat} {A : Nat → NW × Nat} (h : ActW P n A) (hn : n ≤ 12) {x : NW × Nat} (h1 : WN P x.1) (h2 : x.2 < 2 ^ 14) : ActW P (kpN n) (kpA n A x) := fun j hj => by
  unfold kpN at hj
  unfold kpA
  by_cases c : n = 12
  · rw [if_pos c] at hj ⊢
    rw [upx_e]
    split
    · exact ⟨h1, h2⟩
    · exact h (j + 1) (by omega)
  · rw [if_neg c] at hj ⊢
    rw [upx_e]
    split
    · exact ⟨h1, h2⟩
    · exact h j (by omega)
theorem kpN_le {n : Nat} (h : n ≤ 12) : kpN n ≤ 12 := by
  unfold kpN
  split <;> omega
theorem SlC.cg {row row' : Nat → Int32} {b : Nat} {x : NW × Nat} (h : SlC row b x) (hx : ∀ q, x.1 = some q → q.2.1 ≤ 40) (e : ∀ i, b ≤ i → i < b + 43 → row' i = row i) : SlC row' b x := by
  obtain ⟨nw, o⟩ := x
  obtain ⟨h1, h2⟩ := h
  refine ⟨by rw [e _ (by omega) (by omega)]; exact h1, ?_⟩
  cases nw with
  | none => exact ⟨by rw [e _ (by omega) (by omega)]; exact h2.1, by rw [e _ (by omega) (by omega)]; exact h2.2⟩
  | some q =>
    have := hx q rfl
    exact ⟨by rw [e _ (by omega) (by omega)]; exact h2.1, by rw [e _ (by omega) (by omega)]; exact h2.2.1, fun i hi => by rw [e _ (by omega) (by omega)]; exact h2.2.2 i hi⟩
theorem WN.le {x : NW} (h : WN P x) : ∀ q, x = some q → q.2.1 ≤ 40 := fun q e => by
  rw [e] at h
  exact h.2.1
theorem S0_startOf {M : MM} (w : Wl M) {old j : Nat} (h : mI M 29 1 = nI old) (ho : old < 12) (hj : j ≤ 12) : f0_startOf M 29 (nI j) = some (nI (43 * ((old + j) % 12)), M) := by
  unfold f0_startOf
  rw [aO_29 w, gd_e (by decide), h, nI_add, show (12 : Int32) = nI 12 from rfl, nI_mod (by omega) (by omega) (by omega), show (43 : Int32) = nI 43 from rfl, nI_mulN, Nat.mul_comm]
theorem HereC.b {M : MM} (h : HereC M nw) (hw : WN P nw) : mI M 23 0 = nI 40 ∧ ∃ H, mI M 23 3 = nI H ∧ H ≤ 40 ∧ (∀ q, nw = some q → H = q.2.1 ∧ mI M 23 2 = nI q.1 ∧ ∀ i, i < H → mI M 25 i = nI (q.2.2 i)) ∧ (nw = none → H = 0 ∧ mI M 23 2 = -1) := by
  cases nw with
  | none => exact ⟨h.1, 0, h.2.2, by omega, (fun q e => by cases e), fun _ => ⟨rfl, h.2.1⟩⟩
  | some q =>
    obtain ⟨h1, h2, h3, h4, h5, h6⟩ := h
    refine ⟨h2, q.2.1, h4, h5, (fun q' e => by cases e; exact ⟨rfl, h3, h6⟩), (fun e => by cases e)⟩
theorem L0_kp83 {M0 : MM} (w0 : Wl M0) {H b : Nat} (h3 : mI M0 23 3 = nI H) (hH : H ≤ 40) (hb : b + 43 ≤ 516) : ∀ (d i : Nat), i + d = H → ∀ f, d < f → ∀ M, Sm [31] [] M0 M → (∀ k, k < i → mI M 31 (b + 3 + k) = mI M0 25 k) → (∀ x, (x < b + 3 ∨ b + 43 ≤ x) → mI M 31 x = mI M0 31 x) →
    ∃ M', LP5 f0_keep_b83_body f M 29 23 (nI b) (nI i) = some (sI M' 29 2 (mI M' 29 2 + 1)) ∧ Sm [31] [] M0 M' ∧ (∀ k, k < H → mI M' 31 (b + 3 + k) = mI M0 25 k) ∧ ∀ x, (x < b + 3 ∨ b + 43 ≤ x) → mI M' 31 x = mI M0 31 x
  | 0, i, hi, f + 1, _, M, s, hk, hu => by
    have w := w0.sm s
    have e : i = H := by omega
    rw [e] at hk ⊢
    refine ⟨M, ?_, s, hk, hu⟩
    rw [LP5_s]
    generalize LP5 f0_keep_b83_body f = K
    unfold f0_keep_b83_body
    rw [aO_23 w, s.i 23 (by decide), h3, if_pos (nI_le (Nat.le_refl _) (by omega)), aO_29 w, aO_29 w, bM_e]
  | d + 1, i, hi, f + 1, hf, M, s, hk, hu => by
    have w := w0.sm s
    obtain ⟨M1, hM1⟩ : ∃ M1, M1 = uI M 31 (upx (mI M 31) (b + 3 + i) (mI M 25 i)) := ⟨_, rfl⟩
    obtain ⟨M', k1, k2⟩ := L0_kp83 w0 h3 hH hb d (i + 1) (by omega) f (by omega) M1 (by rw [hM1]; exact s.uI _ (by decide)) (fun k hk' => by
      rw [hM1, mI_uI, if_pos rfl, upx_e]
      by_cases e : k = i
      · rw [if_pos (by omega), e, s.i 25 (by decide)]
      · rw [if_neg (by omega)]
        exact hk k (by omega)) (fun x hx => by
      rw [hM1, mI_uI, if_pos rfl, upx_e, if_neg (by omega)]
      exact hu x hx)
    refine ⟨M', ?_, k2⟩
    rw [← k1, LP5_s]
    generalize LP5 f0_keep_b83_body f = K
    unfold f0_keep_b83_body
    have pl : i < pcl 23 := by show i < 40; omega
    rw [aO_23 w, s.i 23 (by decide), h3, if_neg (nI_ge (by omega) (by omega)), aO_29 w, aO_23 w, S6_signAt w (.inl rfl) pl, cI_some, r_29_0 w, aO_30 w, lit_3, nI_add, nI_add, s_30 w, pI_in (by omega) (by omega), cV_some, ← hM1, nI_1]
theorem L0_kp32 {M : MM} (w : Wl M) (hh : HereC M nw) (hw : WN P nw) {old n : Nat} (ho : old < 12) (h1 : mI M 29 1 = nI old) (h2 : mI M 29 2 = nI n) (hn : n < 12) : ∃ M', f0_keep_b32 M 29 23 (nI o) = some M' ∧ Sm [29, 31] [] M M' ∧ mI M' 29 1 = nI old ∧ mI M' 29 2 = nI (n + 1) ∧ SlC (mI M' 31) (43 * ((old + n) % 12)) (nw, o) ∧ ∀ x, (x < 43 * ((old + n) % 12) ∨ 43 * ((old + n) % 12) + 43 ≤ x) → mI M' 31 x = mI M 31 x := by
  obtain ⟨-, H, e3, hH, es, en⟩ := hh.b hw
  obtain ⟨b, hb⟩ : ∃ b, b = 43 * ((old + n) % 12) := ⟨_, rfl⟩
  have b16 : b + 43 ≤ 516 := by omega
  rw [← hb]
  obtain ⟨M1, hM1⟩ : ∃ M1, M1 = uI M 31 (upx (mI M 31) b (mI M 23 2)) := ⟨_, rfl⟩
  have s1 : Sm [31] [] M M1 := by rw [hM1]; exact (Sm.rfl _ _ M).uI _ (by decide)
  have w1 := w.sm s1
  obtain ⟨M2, hM2⟩ : ∃ M2, M2 = uI M1 31 (upx (mI M1 31) (b + 1) (mI M 23 3)) := ⟨_, rfl⟩
  have s2 : Sm [31] [] M M2 := by rw [hM2]; exact s1.uI _ (by decide)
  have w2 := w.sm s2
  obtain ⟨M3, hM3⟩ : ∃ M3, M3 = uI M2 31 (upx (mI M2 31) (b + 2) (nI o)) := ⟨_, rfl⟩
  have s3 : Sm [31] [] M M3 := by rw [hM3]; exact s2.uI _ (by decide)
  have w3 := w.sm s3
  have r3 : mI M3 31 = upx (upx (upx (mI M 31) b (mI M 23 2)) (b + 1) (mI M 23 3)) (b + 2) (nI o) := by
    rw [hM3, mI_uI, if_pos rfl, hM2, mI_uI, if_pos rfl, hM1, mI_uI, if_pos rfl]
  obtain ⟨M4, k1, k2, k3, k4⟩ := L0_kp83 w3 (by rw [s3.i 23 (by decide)]; exact e3) hH b16 H 0 (by omega) FU (FU_big (by omega)) M3 (Sm.rfl _ _ _) (fun k hk => absurd hk (Nat.not_lt_zero _)) (fun _ _ => rfl)
  have s4 := s3.trans k2
  have c4 : mI M4 29 = mI M 29 := s4.i 29 (by decide)
  have lo : ∀ x, x < b + 3 → mI M4 31 x = upx (upx (upx (mI M 31) b (mI M 23 2)) (b + 1) (mI M 23 3)) (b + 2) (nI o) x := fun x hx => by rw [k4 x (.inl hx), r3]
  refine ⟨sI M4 29 2 (mI M4 29 2 + 1), ?_, ?_, ?_, ?_, ?_, ?_⟩
  · unfold f0_keep_b32
    rw [aO_29 w, aO_29 w, h2, S0_startOf w h1 ho (by omega), ← hb, cI_some, aO_29 w, aO_23 w, r_29_0 w, aO_30 w, nI_add0, s_30 w, pI_in (by omega) (by omega), cV_some, ← hM1]
    rw [aO_29 w1, aO_23 w1, r_29_0 w1, aO_30 w1, nI_1, s_30 w1, pI_in (by omega) (by omega), cV_some, s1.i 23 (by decide), ← hM2]
    rw [aO_29 w2, r_29_0 w2, aO_30 w2, lit_2, nI_add, s_30 w2, pI_in (by omega) (by omega), cV_some, ← hM3]
    exact k1
  · rw [sI_e]
    exact (s4.more (by decide) (by decide)).uI _ (by decide)
  · rw [mI_sI, if_neg (by decide), c4, h1]
  · rw [mI_sI, if_pos ⟨rfl, rfl⟩, c4, h2, nI_1]
  · rw [sI_e, mI_uI, if_neg (by decide)]
    refine ⟨?_, ?_⟩
    · rw [lo _ (by omega), upx_e, if_pos rfl]
    · have l0 : mI M4 31 b = mI M 23 2 := by rw [lo _ (by omega), upx_e, if_neg (by omega), upx_e, if_neg (by omega), upx_e, if_pos rfl]
      have l1 : mI M4 31 (b + 1) = nI H := by rw [lo _ (by omega), upx_e, if_neg (by omega), upx_e, if_pos rfl, e3]
      cases nw with
      | none =>
        obtain ⟨z1, z2⟩ := en rfl
        exact ⟨l0.trans z2, by rw [l1, z1]⟩
      | some q =>
        obtain ⟨z1, z2, z3⟩ := es q rfl
        refine ⟨l0.trans z2, by rw [l1, z1], fun i hi => ?_⟩
        have hi' : i < q.2.1 := hi
        rw [k3 i (by omega), s3.i 25 (by decide)]
        exact z3 i (by omega)
  · intro x hx
    rw [sI_e, mI_uI, if_neg (by decide), k4 x (by omega), r3, upx_e, if_neg (by omega), upx_e, if_neg (by omega), upx_e, if_neg (by omega)]
theorem S0_keep {M : MM} {n : Nat} {A : Nat → NW × Nat} (w : Wl M) (hh : HereC M nw) (hw : WN P nw) (ha : ActC M n A) (hA : ActW P n A) : ∃ M', f0_keep M 29 23 (nI o) = some M' ∧ Sm [29, 31] [] M M' ∧ ActC M' (kpN n) (kpA n A (nw, o)) := by
  obtain ⟨old, a1, a2, a3, a4, a5⟩ := ha
  unfold f0_keep kpN kpA
  rw [aO_29 w, a3]
  simp only [show (12 : Int32) = nI 12 from rfl, c_eq (show n < 2 ^ 31 by omega) (show 12 < 2 ^ 31 by omega)]
  by_cases c : n = 12
  · rw [if_pos c, if_pos c, if_pos c]
    obtain ⟨M1, hM1⟩ : ∃ M1, M1 = sI (sI M 29 1 (nI ((old + 1) % 12))) 29 2 (nI 11) := ⟨_, rfl⟩
    have s1 : Sm [29] [] M M1 := by rw [hM1, sI_e, sI_e]; exact ((Sm.rfl _ _ M).uI _ (by decide)).uI _ (by decide)
    have w1 := w.sm s1
    obtain ⟨M2, k1, k2, k3, k4, k5, k6⟩ := L0_kp32 (o := o) w1 (hh.sm s1 (by decide)) hw (old := (old + 1) % 12) (n := 11) (by omega) (by rw [hM1, mI_sI, if_neg (by decide), mI_sI, if_pos ⟨rfl, rfl⟩]) (by rw [hM1, mI_sI, if_pos ⟨rfl, rfl⟩]) (by omega)
    refine ⟨M2, ?_, (s1.more (by decide) (by decide)).trans k2, (old + 1) % 12, by omega, k3, k4, by omega, fun j hj => ?_⟩
    · have wa : Wl (sI M 29 1 (nI ((old + 1) % 12))) := w
      have ea : mI (sI M 29 1 (nI ((old + 1) % 12))) 29 2 = nI n := by rw [mI_sI, if_neg (by decide)]; exact a3
      rw [aO_29 w, gd_e (by decide), aO_29 w, a2, nI_1, nI_mod (by omega) (by omega) (by omega), bM_e, aO_29 wa, aO_29 wa, ea, c, nI_sub1 (by omega), bM_e]
      rw [show (12 - 1 : Nat) = 11 from rfl, ← hM1]
      exact k1
    · rw [upx_e]
      by_cases e : j = 11
      · rw [if_pos e, e]
        exact k5
      · rw [if_neg e, show ((old + 1) % 12 + j) % 12 = (old + (j + 1)) % 12 by omega]
        refine (a5 (j + 1) (by omega)).cg (hA (j + 1) (by omega)).1.le (fun i h1 h2 => ?_)
        rw [k6 i (by omega), s1.i 31 (by decide)]
  · rw [if_neg c, if_neg c, if_neg c]
    obtain ⟨M2, k1, k2, k3, k4, k5, k6⟩ := L0_kp32 (o := o) w hh hw a1 a2 a3 (by omega)
    refine ⟨M2, k1, k2, old, a1, k3, k4, by omega, fun j hj => ?_⟩
    rw [upx_e]
    by_cases e : j = n
    · rw [if_pos e, e]
      exact k5
    · rw [if_neg e]
      exact (a5 j (by omega)).cg (hA j (by omega)).1.le (fun i h1 h2 => k6 i (by omega))
theorem L0_tb37 {M0 : MM} {H b : Nat} (w0 : Wl M0) (hH : H ≤ 40) (hb : b + 43 ≤ 516) {s : Nat → Nat} (hs : ∀ i, i < H → mI M0 31 (b + 3 + i) = nI (s i)) : ∀ (d i : Nat), i + d = H → ∀ f, d < f → ∀ M s', Sm [23, 25] [] M0 M → PlS M 23 i s' → (∀ k, k < i → s' k = s k) →
    ∃ M' s', LP6 f0_takeBack_b37_body f M 29 23 (nI b) (nI H) (nI i) = some (mI M0 31 (b + 2), sI M' 23 2 (mI M0 31 b)) ∧ Sm [23, 25] [] M0 M' ∧ PlS M' 23 H s' ∧ ∀ k, k < H → s' k = s k
  | 0, i, hi, f + 1, _, M, s', sm, pl, he => by
    have w := w0.sm sm
    have e : i = H := by omega
    rw [e] at pl he ⊢
    refine ⟨M, s', ?_, sm, pl, he⟩
    have wa : Wl (sI M 23 2 (mI M 31 b)) := w
    have e31 : mI M 31 = mI M0 31 := sm.i 31 (by decide)
    have ea : mI (sI M 23 2 (mI M 31 b)) 31 = mI M0 31 := by rw [sI_e, mI_uI, if_neg (by decide), e31]
    rw [LP6_s]
    generalize LP6 f0_takeBack_b37_body f = K
    unfold f0_takeBack_b37_body
    rw [if_pos (nI_le (Nat.le_refl _) (by omega)), aO_29 w, r_29_0 w, aO_30 w, nI_add0, g_30 w, cI_some, gI_in (by omega) (by omega), aO_23 w, bM_e, aO_29 wa, r_29_0 wa, aO_30 wa, lit_2, nI_add, g_30 wa, cI_some, gI_in (by omega) (by omega), ea, e31]
  | d + 1, i, hi, f + 1, hf, M, s', sm, pl, he => by
    have w := w0.sm sm
    obtain ⟨M1, p1, p2, p3, p4⟩ := S6_push w pl (show i < 40 by omega) (s i)
    obtain ⟨M', s'', k1, k2⟩ := L0_tb37 w0 hH hb hs d (i + 1) (by omega) f (by omega) M1 _ (sm.trans p3) p2 (fun k hk => by
      rw [upx_e]
      by_cases e : k = i
      · rw [if_pos e, e]
      · rw [if_neg e]
        exact he k (by omega))
    refine ⟨M', s'', ?_, k2⟩
    rw [← k1, LP6_s]
    generalize LP6 f0_takeBack_b37_body f = K
    unfold f0_takeBack_b37_body
    rw [if_neg (nI_ge (by omega) (by omega)), aO_29 w, r_29_0 w, aO_30 w, lit_3, nI_add, nI_add, g_30 w, cI_some, gI_in (by omega) (by omega), sm.i 31 (by decide), hs i (by omega), aO_23 w, p1, cV_some, nI_1]
theorem S0_takeBack {M : MM} {n : Nat} {A : Nat → NW × Nat} (w : Wl M) (hh : HereC M nw) (hw : WN P nw) (ha : ActC M (n + 1) A) (hA : ActW P (n + 1) A) : ∃ M', f0_takeBack M 29 23 = some (nI (A n).2, M') ∧ Sm [23, 25, 29] [] M M' ∧ ActC M' n A ∧ HereC M' (A n).1 := by
  obtain ⟨old, a1, a2, a3, a4, a5⟩ := ha
  obtain ⟨h0, -⟩ := hh.b hw
  obtain ⟨b, hb⟩ : ∃ b, b = 43 * ((old + n) % 12) := ⟨_, rfl⟩
  have b16 : b + 43 ≤ 516 := by omega
  have sl := a5 n (by omega)
  have wn := (hA n (by omega)).1
  rw [← hb] at sl
  obtain ⟨M1, hM1⟩ : ∃ M1, M1 = sI M 29 2 (nI n) := ⟨_, rfl⟩
  have s1 : Sm [29] [] M M1 := by rw [hM1, sI_e]; exact (Sm.rfl _ _ M).uI _ (by decide)
  have w1 := w.sm s1
  have c1 : mI M1 29 1 = nI old := by rw [hM1, mI_sI, if_neg (by decide)]; exact a2
  have c2 : mI M1 29 2 = nI n := by rw [hM1, mI_sI, if_pos ⟨rfl, rfl⟩]
  obtain ⟨f1, f2, f3, f4⟩ := S6_forget (b := 23) (s := fun _ => 0) w1 (.inl rfl) (by rw [s1.i 23 (by decide)]; exact h0)
  obtain ⟨M2, hM2⟩ : ∃ M2, M2 = sI (sI M1 23 2 (-1)) 23 3 0 := ⟨_, rfl⟩
  rw [← hM2] at f1 f2 f3 f4
  have w2 := w1.sm f3
  have e31 : mI M2 31 = mI M 31 := by rw [f3.i 31 (by decide), s1.i 31 (by decide)]
  have main : ∀ (H : Nat) (s : Nat → Nat), mI M 31 (b + 1) = nI H → H ≤ 40 → (∀ i, i < H → mI M 31 (b + 3 + i) = nI (s i)) → ∃ M3 s', f0_takeBack M 29 23 = some (mI M 31 (b + 2), sI M3 23 2 (mI M 31 b)) ∧ Sm [23, 25, 29] [] M M3 ∧ mI M3 29 = mI M1 29 ∧ PlS M3 23 H s' ∧ ∀ k, k < H → s' k = s k := fun H s g1 g2 g3 => by
    obtain ⟨M3, s', k1, k2, k3, k4⟩ := L0_tb37 w2 g2 b16 (s := s) (fun i hi => by rw [e31]; exact g3 i hi) H 0 (by omega) FU (FU_big (by omega)) M2 (fun _ => 0) (Sm.rfl _ _ _) f2 (fun k hk => absurd hk (Nat.not_lt_zero _))
    refine ⟨M3, s', ?_, ((s1.more (by decide) (by decide)).trans (f3.more (by decide) (by decide))).trans (k2.more (by decide) (by decide)), by rw [k2.i 29 (by decide), f3.i 29 (by decide)], k3, k4⟩
    rw [e31] at k1
    unfold f0_takeBack
    rw [aO_29 w, aO_29 w, a3, nI_sub1 (by omega), show n + 1 - 1 = n from rfl, bM_e, ← hM1, aO_29 w1, aO_29 w1, c2, S0_startOf w1 c1 a1 (by omega), ← hb, cI_some, aO_29 w1, r_29_0 w1, aO_30 w1, nI_1, g_30 w1, cI_some, gI_in (by omega) (by omega), s1.i 31 (by decide), g1, aO_23 w1, f1, cV_some]
    exact k1
  obtain ⟨H, s, g1, g2, g3, g4⟩ : ∃ H s, mI M 31 (b + 1) = nI H ∧ H ≤ 40 ∧ (∀ i, i < H → mI M 31 (b + 3 + i) = nI (s i)) ∧ (((A n).1 = none ∧ H = 0) ∨ ∃ p, (A n).1 = some (p, H, s)) := by
    obtain ⟨l1, l2⟩ := sl
    cases c : (A n).1 with
    | none =>
      rw [c] at l2
      exact ⟨0, fun _ => 0, l2.2, by omega, fun i hi => absurd hi (Nat.not_lt_zero _), .inl ⟨rfl, rfl⟩⟩
    | some q =>
      rw [c] at l2
      exact ⟨q.2.1, q.2.2, l2.2.1, wn.le q c, l2.2.2, .inr ⟨q.1, rfl⟩⟩
  obtain ⟨M3, s', k1, k2, k3, k4, k5⟩ := main H s g1 g2 g3
  have i29 : mI (sI M3 23 2 (mI M 31 b)) 29 = mI M1 29 := by rw [sI_e, mI_uI, if_neg (by decide), k3]
  have sA : Sm [23, 25, 29] [] M (sI M3 23 2 (mI M 31 b)) := by rw [sI_e]; exact k2.uI _ (by decide)
  refine ⟨_, ?_, sA, ⟨old, a1, by rw [i29]; exact c1, by rw [i29]; exact c2, by omega, fun j hj => ?_⟩, ?_⟩
  · rw [k1, sl.1]
  · rw [sA.i 31 (by decide)]
    exact a5 j (by omega)
  · obtain ⟨l1, l2⟩ := sl
    obtain ⟨q1, q2, q3, q4, q5⟩ := k4
    rcases g4 with ⟨z, zH⟩ | ⟨p, z⟩
    · rw [z] at l2 ⊢
      refine ⟨by rw [mI_sI, if_neg (by decide)]; exact q2, by rw [mI_sI, if_pos ⟨rfl, rfl⟩]; exact l2.1, ?_⟩
      rw [mI_sI, if_neg (by decide), q3, zH]
      rfl
    · rw [z] at l2 ⊢
      refine ⟨.inl rfl, by rw [mI_sI, if_neg (by decide)]; exact q2, by rw [mI_sI, if_pos ⟨rfl, rfl⟩]; exact l2.1, by rw [mI_sI, if_neg (by decide)]; exact q3, q4, fun i hi => ?_⟩
      rw [sI_e, mI_uI, if_neg (by decide), q5 i hi, k5 i hi]
end ACTSC
