/-! THE MOST STEPS: the class's rounds, and from now -/
section MOSTR
variable {P : PG} {o a1 : Nat} {cn : Nat → Nat → Nat → Bool} {l : Nat → Bool} {rk : Nat → Nat}
def Bds (A B : Nat → Nat) : Prop := (∀ i, A i ≤ CAPN + 1) ∧ ∀ x, 1 ≤ B x ∧ B x ≤ CAPN + 1
def Ct (P : PG) (o : Nat) (l : Nat → Bool) (r : Nat) : Prop := rin P o r = true ∧ l (hdR P r) = false
theorem L2_mo36 {M0 : MM} (hd0 : HdC M0 a1 P o cn) (hp : WP P) (ho : o < 2 ^ 31) (hcn : CnOK P o cn) (hk : Rk P o cn l rk) {g : Nat → Int32} (h52 : mI M0 52 = bR 30 l g) (k : Nat) : ∀ (d j : Nat), j + d = pR P → ∀ f, d < f → ∀ M A B ch, Sm [] [54, 56] M0 M → ABr M 54 56 A B → Bds A B → UV P o cn l A B → LV P o cn l rk k A B → (∀ r, r < j → Ct P o l r → rk (hdR P r) < k + 1 → Dn P o cn r A B) → (ch = false → ∀ r, r < j → Ct P o l r → (∀ q, q < pS P → FAm P A r q ≤ A (5 * hdR P r + q)) ∧ FBc P cn A B r ≤ B (hdR P r)) →
    ∃ M' A' B' ch', (∀ K22, LP5 (f2_findMostSteps_b36_body K22) f M 48 (bI ch) (nI k) (nI j) = K22 M' 48 (bI ch') (nI (k + 1))) ∧ Sm [] [54, 56] M0 M' ∧ ABr M' 54 56 A' B' ∧ Bds A' B' ∧ UV P o cn l A' B' ∧ LV P o cn l rk (k + 1) A' B' ∧ (ch' = false → ∀ r, Ct P o l r → (∀ q, q < pS P → FAm P A' r q ≤ A' (5 * hdR P r + q)) ∧ FBc P cn A' B' r ≤ B' (hdR P r))
  | 0, j, hj, f + 1, _, M, A, B, ch, s, h, bd, u, v, dn, cl => by
    have hd : HdC M a1 P o cn := hd0.sm s (by decide) (by decide)
    obtain ⟨w, h1, h2, -⟩ := id hd
    have h14 := hp.2.2.1
    have e : j = pR P := by omega
    refine ⟨M, A, B, ch, fun K22 => ?_, s, h, bd, u, LV.next hp hk u (fun r hr hl hrk => dn r (by have := rin_lt hr; omega) ⟨hr, hl⟩ hrk), fun z r c => cl z r (by have := rin_lt c.1; omega) c⟩
    rw [LP5_s]
    generalize LP5 (f2_findMostSteps_b36_body K22) f = K
    unfold f2_findMostSteps_b36_body
    rw [aO_48 w, h1, h2.o w, h2.r, if_pos (nI_le (by omega) (by omega)), nI_1]
  | d + 1, j, hj, f + 1, hf, M, A, B, ch, s, h, bd, u, v, dn, cl => by
    have hd : HdC M a1 P o cn := hd0.sm s (by decide) (by decide)
    obtain ⟨w, h1, h2, h3, -⟩ := id hd
    have h14 := hp.2.2.1
    have hjl : j < pR P := by omega
    have hl30 := hd_lt hp hjl
    have r52 : mI M 52 = bR 30 l g := by rw [s.i 52 (by decide), h52]
    have ih := L2_mo36 hd0 hp ho hcn hk h52 k d (j + 1) (by omega) f (by omega)
    by_cases c : Ct P o l j
    · have nl := u.nl hp hcn hk c.1 c.2
      obtain ⟨M1, ch1, a1', a2, a3, a4⟩ := S2_lengthens hd hp h bd.1 bd.2 hjl nl
      have s1 : Sm [] [54, 56] M0 M1 := s.trans a2
      have head : ∀ K22, LP5 (f2_findMostSteps_b36_body K22) (f + 1) M 48 (bI ch) (nI k) (nI j) = LP5 (f2_findMostSteps_b36_body K22) f M1 48 (bI (ch || ch1)) (nI k) (nI (j + 1)) := fun K22 => by
        rw [LP5_s]
        generalize LP5 (f2_findMostSteps_b36_body K22) f = K
        unfold f2_findMostSteps_b36_body f2_findMostSteps_b82 f2_findMostSteps_b99
        rw [aO_48 w, h1, h2.o w, h2.r, if_neg (nI_ge (by omega) (by omega)), aO_48 w, aO_48 w, h2.o w, h3, S7_isIn w h2 hp (by omega) ho, cI_some, c.1, bI_t, if_neg (by decide), aO_48 w, aO_48 w, S2_headOfRule hd hp hjl, cI_some, r_48_1 w, aO_51 w, g_51 w, cI_some, gI_in hl30 (by omega), r52, bR_at hl30, c.2, bI_f, if_pos rfl, if_neg (by decide), aO_48 w, a1', cI_some, nI_1]
        simp only [bI_0]
        cases ch1
        · rw [if_pos rfl, Bool.or_false]
        · rw [if_neg (by decide), Bool.or_true]
          rfl
      have t : Trn P A B j (FBc P cn A B j) (stj P A j (pS P)) (stB P cn A B j) := stj_trn hp
      obtain ⟨u1, v1, d1⟩ := t.go hp hcn hk u v c.1 (fun hl => ⟨FBc_le u hp hcn hk c.1 hl, fun eq => FBc_ge hp c.1 eq⟩)
      have bd1 : Bds (stj P A j (pS P)) (stB P cn A B j) := ⟨stj_bd bd.1, fun x => by
        unfold stB
        have := bd.2 x
        split
        · exact ⟨Nat.le_trans this.1 (Nat.le_max_left _ _), Nat.max_le.mpr ⟨this.2, fbc_bd⟩⟩
        · exact this⟩
      obtain ⟨M', A', B', ch', k1, k2⟩ := ih M1 _ _ (ch || ch1) s1 a3 bd1 u1 v1 (fun r hr cr hrk => by
          by_cases e : r = j
          · rw [e] at hrk ⊢
            exact d1 c.2 hrk
          · exact (dn r (by omega) cr hrk).mono t.1 t.2.1) (fun z r hr cr => by
          rw [Bool.or_eq_false_iff] at z
          obtain ⟨y1, y2⟩ := a4 z.2
          have eA : stj P A j (pS P) = A := by
            funext i
            unfold stj
            split
            · next q => 
              have := y1 _ q.2
              rw [show 5 * hdR P j + i % 5 = i by omega] at this
              exact Nat.max_eq_left this
            · rfl
          have eB : stB P cn A B j = B := by
            funext x
            unfold stB
            split
            · next q =>
              rw [q]
              exact Nat.max_eq_left y2
            · rfl
          rw [eA, eB]
          by_cases e : r = j
          · rw [e]
            exact ⟨y1, y2⟩
          · exact cl z.1 r (by omega) cr)
      exact ⟨M', A', B', ch', fun K22 => (head K22).trans (k1 K22), k2⟩
    · have head : ∀ K22, LP5 (f2_findMostSteps_b36_body K22) (f + 1) M 48 (bI ch) (nI k) (nI j) = LP5 (f2_findMostSteps_b36_body K22) f M 48 (bI ch) (nI k) (nI (j + 1)) := fun K22 => by
        rw [LP5_s]
        generalize LP5 (f2_findMostSteps_b36_body K22) f = K
        unfold f2_findMostSteps_b36_body f2_findMostSteps_b81 f2_findMostSteps_b82 f2_findMostSteps_b99
        rw [aO_48 w, h1, h2.o w, h2.r, if_neg (nI_ge (by omega) (by omega)), aO_48 w, aO_48 w, h2.o w, h3, S7_isIn w h2 hp (by omega) ho, cI_some, nI_1]
        by_cases c1 : rin P o j = true
        · have c2 : l (hdR P j) = true := by
            rw [← Bool.not_eq_false]
            exact fun z => c ⟨c1, z⟩
          rw [c1, bI_t, if_neg (by decide), aO_48 w, aO_48 w, S2_headOfRule hd hp hjl, cI_some, r_48_1 w, aO_51 w, g_51 w, cI_some, gI_in hl30 (by omega), r52, bR_at hl30, c2, bI_t, if_neg (by decide), if_pos rfl]
        · rw [Bool.not_eq_true] at c1
          rw [c1, bI_f, if_pos rfl, if_pos rfl]
      obtain ⟨M', A', B', ch', k1, k2⟩ := ih M A B ch s h bd u v (fun r hr cr hrk => by
          by_cases e : r = j
          · rw [e] at cr
            exact absurd cr c
          · exact dn r (by omega) cr hrk) (fun z r hr cr => by
          by_cases e : r = j
          · rw [e] at cr
            exact absurd cr c
          · exact cl z r (by omega) cr)
      exact ⟨M', A', B', ch', fun K22 => (head K22).trans (k1 K22), k2⟩
theorem L2_mo22 {M0 : MM} (hd0 : HdC M0 a1 P o cn) (hp : WP P) (ho : o < 2 ^ 31) (hcn : CnOK P o cn) (hk : Rk P o cn l rk) {g : Nat → Int32} (h52 : mI M0 52 = bR 30 l g) : ∀ (d k : Nat), k + d = 31 → ∀ f, d < f → ∀ M A B ch, Sm [] [54, 56] M0 M → ABr M 54 56 A B → Bds A B → UV P o cn l A B → LV P o cn l rk k A B → (ch = false → ∀ m, LV P o cn l rk m A B) →
    ∃ M' A' B', LP4 f2_findMostSteps_b22_body f M 48 (bI ch) (nI k) = some M' ∧ Sm [] [54, 56] M0 M' ∧ ABr M' 54 56 A' B' ∧ Bds A' B' ∧ LV P o cn l rk 31 A' B'
  | d, k, hk31, 0, hf, _, _, _, _, _, _, _, _, _, _ => absurd hf (Nat.not_lt_zero _)
  | d, k, hk31, f + 1, hf, M, A, B, ch, s, h, bd, u, v, cl => by
    cases ch with
    | false =>
      refine ⟨M, A, B, ?_, s, h, bd, cl rfl 31⟩
      rw [LP4_s]
      generalize LP4 f2_findMostSteps_b22_body f = K
      unfold f2_findMostSteps_b22_body
      rw [bI_f, if_pos rfl]
    | true =>
      cases d with
      | zero =>
        have e : k = 31 := by omega
        rw [e] at v ⊢
        refine ⟨M, A, B, ?_, s, h, bd, v⟩
        rw [LP4_s]
        generalize LP4 f2_findMostSteps_b22_body f = K
        unfold f2_findMostSteps_b22_body
        rw [bI_t, if_neg (by decide), if_pos (by decide)]
      | succ d =>
        obtain ⟨M1, A1, B1, ch1, k1, k2, k3, k4, k5, k6, k7⟩ := L2_mo36 hd0 hp ho hcn hk h52 k (pR P) 0 (by omega) FU (FU_big (by have := hp.2.2.1; omega)) M A B false s h bd u v (fun r hr => absurd hr (Nat.not_lt_zero _)) (fun _ r hr => absurd hr (Nat.not_lt_zero _))
        obtain ⟨M', A', B', z1, z2⟩ := L2_mo22 hd0 hp ho hcn hk h52 d (k + 1) (by omega) f (by omega) M1 A1 B1 ch1 k2 k3 k4 k5 k6 (fun z => LV.clo hp hk k5 (fun r hr hl => k7 z r ⟨hr, hl⟩))
        refine ⟨M', A', B', ?_, z2⟩
        rw [← z1, LP4_s, ← k1 (LP4 f2_findMostSteps_b22_body f)]
        generalize LP4 f2_findMostSteps_b22_body f = K
        unfold f2_findMostSteps_b22_body
        rw [bI_t, if_neg (by decide), lit_30, if_neg (by rw [c_lt (by omega) (by omega)]; omega)]
        rfl
theorem UV0 : UV P o cn l (fun _ => 0) (fun _ => 1) := fun h _ _ => ⟨⟨Nat.le_refl _, VB_ge h⟩, fun _ _ => Nat.zero_le _⟩
theorem Bds0 : Bds (fun _ => 0) (fun _ => 1) := ⟨fun _ => Nat.zero_le _, fun _ => ⟨Nat.le_refl _, show 1 ≤ CAPN + 1 by unfold CAPN; omega⟩⟩
theorem S2_findMost {M : MM} (hd : HdC M a1 P o cn) (hp : WP P) (ho : o < 2 ^ 31) (hcn : CnOK P o cn) (hk : Rk P o cn l rk) {g : Nat → Int32} (h52 : mI M 52 = bR 30 l g) :
    ∃ M' A B, f2_findMostSteps M 48 = some M' ∧ Sm [] [54, 56] M M' ∧ ABr M' 54 56 A B ∧ Bds A B ∧ ∀ h, h < 30 → l h = false → B h = VB P o cn h ∧ ∀ q, q < 5 → A (5 * h + q) = VA P o cn (5 * h + q) := by
  have w := hd.1
  obtain ⟨M1, hM1⟩ : ∃ M1, M1 = uJ M 54 (fun k => if k < 30 then 0 else mJ M 54 k) := ⟨_, rfl⟩
  have s1 : Sm [] [54, 56] M M1 := by rw [hM1]; exact (Sm.rfl _ _ M).uJ _ (by decide)
  have w1 := w.sm s1
  obtain ⟨M2, hM2⟩ : ∃ M2, M2 = uJ M1 56 (fun k => if k < 150 then -1 else mJ M1 56 k) := ⟨_, rfl⟩
  have s2 : Sm [] [54, 56] M M2 := by rw [hM2]; exact s1.uJ _ (by decide)
  have h2 : ABr M2 54 56 (fun _ => 0) (fun _ => 1) := by
    refine ⟨fun i hi => ?_, fun x hx => ?_⟩
    · rw [hM2, mJ_uJ, if_pos rfl, if_pos hi]
      rfl
    · rw [hM2, mJ_uJ, if_neg (by decide), hM1, mJ_uJ, if_pos rfl, if_pos hx]
      rfl
  obtain ⟨M', A, B, z1, z2, z3, z4, z5⟩ := L2_mo22 hd hp ho hcn hk h52 31 0 (by omega) FU (FU_big (by omega)) M2 _ _ true s2 h2 Bds0 UV0 (fun _ _ _ q => absurd q (Nat.not_lt_zero _)) (fun z => by cases z)
  refine ⟨M', A, B, ?_, z2, z3, z4, fun x hx hl => z5 x hx hl (by have := hk.1 x; omega)⟩
  rw [← z1]
  unfold f2_findMostSteps
  rw [aO_48 w, r_48_2 w, aO_53 w, S4_fill (i_53 w) (by omega), cV_some, ← hM1, aO_48 w1, r_48_3 w1, aO_55 w1, S4_fill (i_55 w1) (by omega), cV_some, ← hM2]
  rfl
/-! from now: told on the way down -/
def dpT (P : PG) (A : Nat → Nat) (p0 H : Nat) (s : Nat → Nat) : Nat → Nat → Nat
  | 0, q => if q = p0 then 1 else 0
  | d + 1, q => mxN (fun p => sm (dpT P A p0 H s d p) (A (5 * (6 * p + s (H - 1 - d)) + q))) (pS P)
def dpM (P : PG) (A B : Nat → Nat) (p0 H : Nat) (s : Nat → Nat) : Nat → Nat
  | 0 => 1
  | d + 1 => max (dpM P A B p0 H s d) (mxN (fun p => sm (dpT P A p0 H s d p) (B (6 * p + s (H - 1 - d)))) (pS P))
theorem dpT_le {A : Nat → Nat} {p0 H : Nat} {s : Nat → Nat} : ∀ d q, dpT P A p0 H s d q ≤ CAPN + 1
  | 0, q => by
    unfold dpT CAPN
    split <;> omega
  | d + 1, q => mxN_le _ (fun p _ => sm_le _ _)
theorem dpM_le {A B : Nat → Nat} {p0 H : Nat} {s : Nat → Nat} : ∀ d, 1 ≤ dpM P A B p0 H s d ∧ dpM P A B p0 H s d ≤ CAPN + 1
  | 0 => ⟨Nat.le_refl _, by show 1 ≤ CAPN + 1; unfold CAPN; omega⟩
  | d + 1 => ⟨Nat.le_trans (dpM_le d).1 (Nat.le_max_left _ _), Nat.max_le.mpr ⟨(dpM_le d).2, mxN_le _ (fun p _ => sm_le _ _)⟩⟩
theorem dpT_up (hp : WP P) (hcn : CnOK P o cn) {p0 H : Nat} {s : Nat → Nat} (hs : ∀ i, i < H → s i < 6) : ∀ d q, d ≤ H → q < 5 → dpT P (VA P o cn) p0 H s d q ≠ 0 → upS P cn p0 H s d q = true
  | 0, q, _, _, h => by
    unfold dpT at h
    by_cases e : q = p0
    · exact decide_eq_true e
    · rw [if_neg e] at h
      exact absurd rfl h
  | d + 1, q, hd, hq, h => by
    have p5 := hp.1
    obtain ⟨p, hp', -, h0⟩ := mxN_ex (f := fun p => sm (dpT P (VA P o cn) p0 H s d p) (VA P o cn (5 * (6 * p + s (H - 1 - d)) + q))) _ h
    have t0 : dpT P (VA P o cn) p0 H s d p ≠ 0 := fun z => h0 (by rw [z, sm_0'])
    have v0 : VA P o cn (5 * (6 * p + s (H - 1 - d)) + q) ≠ 0 := fun z => h0 (by rw [z, sm_0])
    have cc := Kl_cn hp hcn 31 p (s (H - 1 - d)) q (by omega) (hs _ (by omega)) hq v0
    exact any_in hp' (by rw [dpT_up hp hcn hs d p (by omega) (by omega) t0, cc]; rfl)
theorem L2_gb3 {M0 : MM} (hd0 : HdC M0 a1 P o cn) (hp : WP P) {A B : Nat → Nat} (h : ABr M0 54 56 A B) (bA : ∀ i, A i ≤ CAPN + 1) {p g t : Nat} (hp5 : p < 5) (hg : g < 6) (ht : t ≤ CAPN + 1) (t0 : t ≠ 0) {N : Nat → Nat} (bN : ∀ q, N q ≤ CAPN + 1) : ∀ (d j : Nat), j + d = pS P → ∀ f, d < f → ∀ M, Sm [] [60] M0 M → (∀ q, q < 5 → mJ M 60 q = vv (if q < j then max (N q) (sm t (A (5 * (6 * p + g) + q))) else N q)) →
    ∃ M', LP6 f2_goBelow_b3_body f M 48 (nI p) (nI g) (vv t) (nI j) = some M' ∧ Sm [] [60] M0 M' ∧ ∀ q, q < 5 → mJ M' 60 q = vv (if q < pS P then max (N q) (sm t (A (5 * (6 * p + g) + q))) else N q)
  | 0, j, hj, f + 1, _, M, s, hN => by
    have hd : HdC M a1 P o cn := hd0.sm s (by decide) (by decide)
    obtain ⟨w, h1, h2, h3, -⟩ := id hd
    have p5 := hp.1
    have e : j = pS P := by omega
    rw [e] at hN ⊢
    refine ⟨M, ?_, s, hN⟩
    rw [LP6_s]
    generalize LP6 f2_goBelow_b3_body f = K
    unfold f2_goBelow_b3_body
    rw [aO_48 w, h1, h2.o w, h2.s, if_pos (nI_le (Nat.le_refl _) (by omega))]
  | d + 1, j, hj, f + 1, hf, M, s, hN => by
    have hd : HdC M a1 P o cn := hd0.sm s (by decide) (by decide)
    obtain ⟨w, h1, h2, h3, -⟩ := id hd
    have p5 := hp.1
    have j5 : j < 5 := by omega
    have hA : ABr M 54 56 A B := ⟨fun i hi => by rw [s.j 56 (by decide)]; exact h.1 i hi, fun i hi => by rw [s.j 54 (by decide)]; exact h.2 i hi⟩
    have ih := L2_gb3 hd0 hp h bA hp5 hg ht t0 bN d (j + 1) (by omega) f (by omega)
    have cell : mJ M 60 j = vv (N j) := by rw [hN j j5, if_neg (by omega)]
    have head : LP6 f2_goBelow_b3_body (f + 1) M 48 (nI p) (nI g) (vv t) (nI j) = if A (5 * (6 * p + g) + j) = 0 then LP6 f2_goBelow_b3_body f M 48 (nI p) (nI g) (vv t) (nI (j + 1)) else LP6 f2_goBelow_b3_body f (uJ M 60 (upx (mJ M 60) j (vv (max (N j) (sm t (A (5 * (6 * p + g) + j))))))) 48 (nI p) (nI g) (vv t) (nI (j + 1)) := by
      rw [LP6_s]
      generalize LP6 f2_goBelow_b3_body f = K
      unfold f2_goBelow_b3_body f2_goBelow_b59
      rw [aO_48 w, h1, h2.o w, h2.s, if_neg (nI_ge (by omega) (by omega)), aO_48 w, S2_toPop w hA hp5 hg j5, cJ_some, nI_1]
      simp only [vv_lt0 (bA (5 * (6 * p + g) + j))]
      by_cases z : A (5 * (6 * p + g) + j) = 0
      · rw [if_pos z, if_pos z]
      · rw [if_neg z, if_neg z, aO_48 w, aO_48 w, r_48_5 w, aO_59 w, g_59 w, cJ_some, gJ_in j5 (by omega), cell, S4_sv ht (bA _) t0 z, cJ_some, aO_59 w, s_59 w, cV_some, pJ_in j5 (by omega), mxL_vv (bN j) (sm_le _ _)]
    rw [head]
    by_cases z : A (5 * (6 * p + g) + j) = 0
    · rw [if_pos z]
      refine ih M s (fun q hq => ?_)
      rw [hN q hq]
      by_cases e : q = j
      · rw [e, if_neg (by omega), if_pos (by omega), z, sm_0, Nat.max_eq_left (Nat.zero_le _)]
      · by_cases e2 : q < j
        · rw [if_pos e2, if_pos (by omega)]
        · rw [if_neg e2, if_neg (by omega)]
    · rw [if_neg z]
      refine ih _ (s.uJ _ (by decide)) (fun q hq => ?_)
      rw [mJ_uJ, if_pos rfl, upx_e]
      by_cases e : q = j
      · rw [if_pos e, e, if_pos (by omega)]
      · rw [if_neg e, hN q hq]
        by_cases e2 : q < j
        · rw [if_pos e2, if_pos (by omega)]
        · rw [if_neg e2, if_neg (by omega)]
theorem S2_goBelow {M : MM} (hd : HdC M a1 P o cn) (hp : WP P) {A B : Nat → Nat} (h : ABr M 54 56 A B) (bA : ∀ i, A i ≤ CAPN + 1) {p g t : Nat} (hp5 : p < 5) (hg : g < 6) (ht : t ≤ CAPN + 1) (t0 : t ≠ 0) {N : Nat → Nat} (bN : ∀ q, N q ≤ CAPN + 1) (hN : ∀ q, q < 5 → mJ M 60 q = vv (N q)) :
    ∃ M', f2_goBelow M 48 (nI p) (nI g) (vv t) = some M' ∧ Sm [] [60] M M' ∧ ∀ q, q < 5 → mJ M' 60 q = vv (if q < pS P then max (N q) (sm t (A (5 * (6 * p + g) + q))) else N q) :=
  L2_gb3 hd hp h bA hp5 hg ht t0 bN (pS P) 0 (by omega) FU (FU_big (by have := hp.1; omega)) M (Sm.rfl _ _ M) (fun q hq => by rw [hN q hq, if_neg (Nat.not_lt_zero _)])
end MOSTR
