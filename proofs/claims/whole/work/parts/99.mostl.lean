/-! THE MOST STEPS: the reference, all of it -/
section MOSTL
variable {P : PG} {o : Nat} {cn : Nat → Nat → Nat → Bool} {l : Nat → Bool} {rk : Nat → Nat}
theorem c_eq30 {a : Nat} (h : a < 2 ^ 31) : ((30 : Int32) < nI a) = (30 < a) := by rw [lit_30, c_lt (by omega) h]
theorem LM_lm2 {M0 : MM} (w0 : Wl M0) : ∀ (d j : Nat), j + d = 30 → ∀ f, d < f → ∀ M, Sm [] [108, 109] M0 M → (∀ i, i < j → mJ M 108 i = vv 1) → ∃ M', LP3 f12_layMost_b2_body f M 86 (nI j) = f12_layMost_b23 M' 86 0 ∧ Sm [] [108, 109] M0 M' ∧ ∀ i, i < 30 → mJ M' 108 i = vv 1
  | 0, j, hj, f + 1, _, M, s, h => by
    have e : j = 30 := by omega
    rw [e] at h ⊢
    refine ⟨M, ?_, s, h⟩
    rw [LP3_s]
    generalize LP3 f12_layMost_b2_body f = K
    unfold f12_layMost_b2_body
    rw [lit_30, if_pos (nI_le (by omega) (by omega))]
  | d + 1, j, hj, f + 1, hf, M, s, h => by
    have w := w0.sm s
    obtain ⟨M', k1, k2⟩ := LM_lm2 w0 d (j + 1) (by omega) f (by omega) (uJ M 108 (upx (mJ M 108) j 0)) (s.uJ _ (by decide)) (fun i hi => by
      rw [mJ_uJ, if_pos rfl, upx_e]
      by_cases e : i = j
      · rw [if_pos e]
        rfl
      · rw [if_neg e, h i (by omega)])
    refine ⟨M', ?_, k2⟩
    rw [← k1, LP3_s]
    generalize LP3 f12_layMost_b2_body f = K
    unfold f12_layMost_b2_body
    rw [lit_30, if_neg (nI_ge (by omega) (by omega)), aO_86 w, r_86_40 w, aA_108 w (by omega), bM_e, sJ_e, nI_clamp (by omega), nI_1]
theorem LM_lm23 {M0 : MM} (w0 : Wl M0) : ∀ (d j : Nat), j + d = 150 → ∀ f, d < f → ∀ M, Sm [] [108, 109] M0 M → (∀ i, i < 30 → mJ M 108 i = vv 1) → (∀ i, i < j → mJ M 109 i = vv 0) → ∃ M', LP3 f12_layMost_b23_body f M 86 (nI j) = f12_layMost_b47 M' 86 0 ∧ Sm [] [108, 109] M0 M' ∧ ABr M' 108 109 (fun _ => 0) (fun _ => 1)
  | 0, j, hj, f + 1, _, M, s, h0, h => by
    have e : j = 150 := by omega
    rw [e] at h ⊢
    refine ⟨M, ?_, s, h, h0⟩
    rw [LP3_s]
    generalize LP3 f12_layMost_b23_body f = K
    unfold f12_layMost_b23_body
    rw [show (150 : Int32) = nI 150 from rfl, if_pos (nI_le (by omega) (by omega))]
  | d + 1, j, hj, f + 1, hf, M, s, h0, h => by
    have w := w0.sm s
    obtain ⟨M', k1, k2⟩ := LM_lm23 w0 d (j + 1) (by omega) f (by omega) (uJ M 109 (upx (mJ M 109) j (-1))) (s.uJ _ (by decide)) (fun i hi => by
      rw [mJ_uJ, if_neg (by decide)]
      exact h0 i hi) (fun i hi => by
      rw [mJ_uJ, if_pos rfl, upx_e]
      by_cases e : i = j
      · rw [if_pos e]
        rfl
      · rw [if_neg e, h i (by omega)])
    refine ⟨M', ?_, k2⟩
    rw [← k1, LP3_s]
    generalize LP3 f12_layMost_b23_body f = K
    unfold f12_layMost_b23_body
    rw [show (150 : Int32) = nI 150 from rfl, if_neg (nI_ge (by omega) (by omega)), aO_86 w, r_86_41 w, aA_109 w (by omega), bM_e, sJ_e, nI_clamp (by omega), nI_1]
theorem LM_lm55 {M0 : MM} (hd0 : HdM M0 P o cn) (hp : WP P) (ho : o < 2 ^ 31) (hcn : CnOK P o cn) (hk : Rk P o cn l rk) (k : Nat) : ∀ (d j : Nat), j + d = pR P → ∀ f, d < f → ∀ M A B, Sm [] [108, 109] M0 M → ABr M 108 109 A B → Bds A B → UV P o cn l A B → LV P o cn l rk k A B → (∀ r, r < j → Ct P o l r → rk (hdR P r) < k + 1 → Dn P o cn r A B) →
    ∃ M' A' B', (∀ K47, LP4 (f12_layMost_b55_body K47) f M 86 (nI k) (nI j) = K47 M' 86 (nI (k + 1))) ∧ Sm [] [108, 109] M0 M' ∧ ABr M' 108 109 A' B' ∧ Bds A' B' ∧ UV P o cn l A' B' ∧ LV P o cn l rk (k + 1) A' B'
  | 0, j, hj, f + 1, _, M, A, B, s, h, bd, u, v, dn => by
    have hd : HdM M P o cn := hd0.sm s (by rw [s.i 86 (by decide)]) (by decide) (by decide)
    obtain ⟨w, h2, -⟩ := id hd
    have h14 := hp.2.2.1
    have e : j = pR P := by omega
    refine ⟨M, A, B, fun K47 => ?_, s, h, bd, u, LV.next hp hk u (fun r hr hl hrk => dn r (by have := rin_lt hr; omega) ⟨hr, hl⟩ hrk)⟩
    rw [LP4_s]
    generalize LP4 (f12_layMost_b55_body K47) f = K
    unfold f12_layMost_b55_body
    rw [aO_86 w, r_86_1 w, lit_2, aA_87 w (by omega), nI_clamp (by omega), h2.r, if_pos (nI_le (by omega) (by omega)), nI_1]
  | d + 1, j, hj, f + 1, hf, M, A, B, s, h, bd, u, v, dn => by
    have hd : HdM M P o cn := hd0.sm s (by rw [s.i 86 (by decide)]) (by decide) (by decide)
    obtain ⟨w, h2, -⟩ := id hd
    have h14 := hp.2.2.1
    have hjl : j < pR P := by omega
    have ih := LM_lm55 hd0 hp ho hcn hk k d (j + 1) (by omega) f (by omega)
    by_cases c1 : o.testBit j = true
    · have nr : rin P o j = false := by
        unfold rin
        rw [c1]
        simp
      obtain ⟨M', A', B', k1, k2⟩ := ih M A B s h bd u v (fun r hr cr hrk => by
        by_cases e : r = j
        · have := cr.1
          rw [e, nr] at this
          cases this
        · exact dn r (by omega) cr hrk)
      refine ⟨M', A', B', fun K47 => ?_, k2⟩
      rw [← k1 K47, LP4_s]
      generalize LP4 (f12_layMost_b55_body K47) f = K
      unfold f12_layMost_b55_body f12_layMost_b81
      rw [aO_86 w, r_86_1 w, lit_2, aA_87 w (by omega), nI_clamp (by omega), h2.r, if_neg (nI_ge (by omega) (by omega)), aO_86 w, h2.oo, SM_isOf ho (by omega), cI_some, c1, bI_t, if_neg (by decide), nI_1]
    · rw [Bool.not_eq_true] at c1
      have ri : rin P o j = true := by
        unfold rin
        rw [c1]
        simp [hjl]
      obtain ⟨M1, A1, B1, a1, a2, a3, a4, t⟩ := SM_mostBy hd hp h bd hjl
      obtain ⟨u1, v1, d1⟩ := t.go hp hcn hk u v ri (fun hl => ⟨FBm_le u hp hcn hk ri hl, fun eq => FBm_ge hp ri eq⟩)
      obtain ⟨M', A', B', k1, k2⟩ := ih M1 A1 B1 (s.trans a2) a3 a4 u1 v1 (fun r hr cr hrk => by
        by_cases e : r = j
        · rw [e] at cr hrk ⊢
          exact d1 cr.2 hrk
        · exact (dn r (by omega) cr hrk).mono t.1 t.2.1)
      refine ⟨M', A', B', fun K47 => ?_, k2⟩
      rw [← k1 K47, LP4_s]
      generalize LP4 (f12_layMost_b55_body K47) f = K
      unfold f12_layMost_b55_body f12_layMost_b81
      rw [aO_86 w, r_86_1 w, lit_2, aA_87 w (by omega), nI_clamp (by omega), h2.r, if_neg (nI_ge (by omega) (by omega)), aO_86 w, h2.oo, SM_isOf ho (by omega), cI_some, c1, bI_f, if_pos rfl, aO_86 w, a1, cV_some, nI_1]
theorem LM_lm47 {M0 : MM} (hd0 : HdM M0 P o cn) (hp : WP P) (ho : o < 2 ^ 31) (hcn : CnOK P o cn) (hk : Rk P o cn l rk) : ∀ (d k : Nat), k + d = 31 → ∀ f, d < f → ∀ M A B, Sm [] [108, 109] M0 M → ABr M 108 109 A B → Bds A B → UV P o cn l A B → LV P o cn l rk k A B →
    ∃ M' A' B', LP3 f12_layMost_b47_body f M 86 (nI k) = some M' ∧ Sm [] [108, 109] M0 M' ∧ ABr M' 108 109 A' B' ∧ Bds A' B' ∧ LV P o cn l rk 31 A' B'
  | 0, k, hk31, f + 1, _, M, A, B, s, h, bd, u, v => by
    have e : k = 31 := by omega
    rw [e] at v ⊢
    refine ⟨M, A, B, ?_, s, h, bd, v⟩
    rw [LP3_s]
    generalize LP3 f12_layMost_b47_body f = K
    unfold f12_layMost_b47_body
    rw [if_pos (by decide)]
  | d + 1, k, hk31, f + 1, hf, M, A, B, s, h, bd, u, v => by
    obtain ⟨M1, A1, B1, k1, k2, k3, k4, k5, k6⟩ := LM_lm55 hd0 hp ho hcn hk k (pR P) 0 (by omega) FU (FU_big (by have := hp.2.2.1; omega)) M A B s h bd u v (fun r hr => absurd hr (Nat.not_lt_zero _))
    obtain ⟨M', A', B', z1, z2⟩ := LM_lm47 hd0 hp ho hcn hk d (k + 1) (by omega) f (by omega) M1 A1 B1 k2 k3 k4 k5 k6
    refine ⟨M', A', B', ?_, z2⟩
    rw [← z1, LP3_s, ← k1 (LP3 f12_layMost_b47_body f)]
    generalize LP3 f12_layMost_b47_body f = K
    unfold f12_layMost_b47_body
    rw [if_neg (by rw [c_eq30 (by omega)]; omega)]
    rfl
theorem SM_layMost {M : MM} (hd : HdM M P o cn) (hp : WP P) (ho : o < 2 ^ 31) (hcn : CnOK P o cn) (hk : Rk P o cn l rk) :
    ∃ M' A B, f12_layMost M 86 = some M' ∧ Sm [] [108, 109] M M' ∧ ABr M' 108 109 A B ∧ Bds A B ∧ ∀ h, h < 30 → l h = false → B h = VB P o cn h ∧ ∀ q, q < 5 → A (5 * h + q) = VA P o cn (5 * h + q) := by
  have w := hd.1
  obtain ⟨M1, a1, a2, a3⟩ := LM_lm2 w 30 0 (by omega) FU (FU_big (by omega)) M (Sm.rfl _ _ M) (fun i hi => absurd hi (Nat.not_lt_zero _))
  obtain ⟨M2, b1, b2, b3⟩ := LM_lm23 w 150 0 (by omega) FU (FU_big (by omega)) M1 a2 a3 (fun i hi => absurd hi (Nat.not_lt_zero _))
  obtain ⟨M', A, B, z1, z2, z3, z4, z5⟩ := LM_lm47 hd hp ho hcn hk 31 0 (by omega) FU (FU_big (by omega)) M2 _ _ b2 b3 Bds0 UV0 (fun _ _ _ q => absurd q (Nat.not_lt_zero _))
  exact ⟨M', A, B, a1.trans (b1.trans z1), z2, z3, z4, fun x hx hl => z5 x hx hl (by have := hk.1 x; omega)⟩
/-! from now: told on the way up -/
def dpW (P : PG) (A B : Nat → Nat) (s : Nat → Nat) : Nat → Nat → Nat
  | 0, _ => 1
  | i + 1, p => if p < pS P then max (B (6 * p + s i)) (mxN (fun q => sm (A (5 * (6 * p + s i) + q)) (dpW P A B s i q)) (pS P)) else 1
theorem dpW_le {A B : Nat → Nat} (bd : Bds A B) {s : Nat → Nat} : ∀ i p, 1 ≤ dpW P A B s i p ∧ dpW P A B s i p ≤ CAPN + 1
  | 0, p => ⟨Nat.le_refl _, show 1 ≤ CAPN + 1 by unfold CAPN; omega⟩
  | i + 1, p => by
    unfold dpW
    split
    · exact ⟨Nat.le_trans (bd.2 _).1 (Nat.le_max_left _ _), Nat.max_le.mpr ⟨(bd.2 _).2, mxN_le _ (fun q _ => sm_le _ _)⟩⟩
    · exact ⟨Nat.le_refl _, by unfold CAPN; omega⟩
theorem dpW_eq (hp : WP P) (hcn : CnOK P o cn) {A B : Nat → Nat} {p0 H : Nat} {s : Nat → Nat} (hs : ∀ i, i < H → s i < 6) (eq : EqD P o cn p0 H s A B) : ∀ i d p, i + d = H → p < pS P → upS P cn p0 H s d p = true → dpW P A B s i p = dpW P (VA P o cn) (VB P o cn) s i p
  | 0, _, _, _, _, _ => rfl
  | i + 1, d, p, hi, hp', hu => by
    have p5 := hp.1
    have e := eq d p (by omega) hp' hu
    rw [show H - 1 - d = i by omega] at e
    unfold dpW
    rw [if_pos hp', if_pos hp', e.1]
    congr 1
    refine mxN_cg _ (fun q hq => ?_)
    rw [e.2 q (by omega)]
    by_cases z : VA P o cn (5 * (6 * p + s i) + q) = 0
    · rw [z, sm_0', sm_0']
    · have cc := Kl_cn hp hcn 31 p (s i) q (by omega) (hs i (by omega)) (by omega) z
      rw [dpW_eq hp hcn hs eq i (d + 1) q (by omega) hq (any_in hp' (by rw [hu, show H - 1 - d = i by omega, cc]; rfl))]
theorem mxN_max (f g : Nat → Nat) : ∀ k, mxN (fun p => max (f p) (g p)) k = max (mxN f k) (mxN g k)
  | 0 => rfl
  | k + 1 => by
    show max (mxN (fun p => max (f p) (g p)) k) (max (f k) (g k)) = max (max (mxN f k) (f k)) (max (mxN g k) (g k))
    rw [mxN_max f g k]
    omega
theorem mxN_0 : ∀ k, mxN (fun _ => 0) k = 0
  | 0 => rfl
  | k + 1 => by
    show max (mxN (fun _ => 0) k) 0 = 0
    rw [mxN_0 k]
    rfl
theorem mxN_swap (f : Nat → Nat → Nat) (m : Nat) : ∀ k, mxN (fun p => mxN (f p) m) k = mxN (fun q => mxN (fun p => f p q) k) m
  | 0 => (mxN_0 m).symm
  | k + 1 => by
    show max (mxN (fun p => mxN (f p) m) k) (mxN (f k) m) = mxN (fun q => max (mxN (fun p => f p q) k) (f k q)) m
    rw [mxN_swap f m k, mxN_max]
theorem mxN_sm' (c : Nat) (f : Nat → Nat) : ∀ k, sm (mxN f k) c = mxN (fun i => sm (f i) c) k
  | 0 => sm_0' c
  | k + 1 => by
    show sm (max (mxN f k) (f k)) c = max (mxN (fun i => sm (f i) c) k) (sm (f k) c)
    rw [sm_maxL, mxN_sm' c f k]
theorem dp_inv {A B : Nat → Nat} {p0 H : Nat} {s : Nat → Nat} : ∀ d, d ≤ H → max (dpM P A B p0 H s d) (mxN (fun p => sm (dpT P A p0 H s d p) (dpW P A B s (H - d) p)) (pS P)) = max 1 (mxN (fun p => sm (if p = p0 then 1 else 0) (dpW P A B s H p)) (pS P))
  | 0, _ => rfl
  | d + 1, hd => by
    rw [← dp_inv d (by omega)]
    have e1 : ∀ p, p < pS P → sm (dpT P A p0 H s d p) (dpW P A B s (H - d) p) = max (sm (dpT P A p0 H s d p) (B (6 * p + s (H - 1 - d)))) (mxN (fun q => sm (sm (dpT P A p0 H s d p) (A (5 * (6 * p + s (H - 1 - d)) + q))) (dpW P A B s (H - (d + 1)) q)) (pS P)) := fun p hp => by
      have : dpW P A B s (H - d) p = max (B (6 * p + s (H - 1 - d))) (mxN (fun q => sm (A (5 * (6 * p + s (H - 1 - d)) + q)) (dpW P A B s (H - (d + 1)) q)) (pS P)) := by
        rw [show H - d = (H - 1 - d) + 1 by omega, show H - (d + 1) = H - 1 - d by omega]
        exact if_pos hp
      rw [this, sm_maxR, mxN_sm]
      congr 1
      exact mxN_cg _ (fun q _ => (sm_assoc _ _ _).symm)
    rw [mxN_cg _ e1, mxN_max, mxN_swap]
    show max (max (dpM P A B p0 H s d) (mxN (fun p => sm (dpT P A p0 H s d p) (B (6 * p + s (H - 1 - d)))) (pS P))) (mxN (fun q => sm (mxN (fun p => sm (dpT P A p0 H s d p) (A (5 * (6 * p + s (H - 1 - d)) + q))) (pS P)) (dpW P A B s (H - (d + 1)) q)) (pS P)) = _
    rw [Nat.max_assoc]
    congr 2
    exact mxN_cg _ (fun q _ => mxN_sm' _ _ _)
theorem dpT_M (hp : WP P) {p0 H : Nat} {s : Nat → Nat} (hs : ∀ i, i < H → s i < 6) : ∀ d q, d ≤ H → q < 5 → dpT P (VA P o cn) p0 H s d q ≤ dpM P (VA P o cn) (VB P o cn) p0 H s d
  | 0, q, _, _ => by
    show (if q = p0 then 1 else 0) ≤ 1
    split <;> omega
  | d + 1, q, hd, hq => by
    have p5 := hp.1
    have := hs (H - 1 - d) (by omega)
    refine Nat.le_trans (mxN_le _ (fun p hp' => ?_)) (Nat.le_max_right _ _)
    refine Nat.le_trans (sm_mono (Nat.le_refl _) ?_) (mxN_ge (fun p => sm (dpT P (VA P o cn) p0 H s d p) (VB P o cn (6 * p + s (H - 1 - d)))) _ p hp')
    exact Kl_AB hp 31 _ q (by omega) hq
theorem dpM_W (hp : WP P) {p0 H : Nat} {s : Nat → Nat} (hp0 : p0 < pS P) (hs : ∀ i, i < H → s i < 6) : dpM P (VA P o cn) (VB P o cn) p0 H s H = dpW P (VA P o cn) (VB P o cn) s H p0 := by
  have p5 := hp.1
  have bd : Bds (VA P o cn) (VB P o cn) := ⟨fun i => (Kl_le 31 i).1, fun x => (Kl_le 31 x).2⟩
  have q := dp_inv (P := P) (A := VA P o cn) (B := VB P o cn) (p0 := p0) (H := H) (s := s) H (Nat.le_refl _)
  have w1 := dpW_le (P := P) bd (s := s) H p0
  have e1 : mxN (fun p => sm (dpT P (VA P o cn) p0 H s H p) (dpW P (VA P o cn) (VB P o cn) s (H - H) p)) (pS P) ≤ dpM P (VA P o cn) (VB P o cn) p0 H s H := mxN_le _ (fun p hp' => by
    rw [Nat.sub_self]
    show sm _ 1 ≤ _
    rw [sm_1 (dpT_le _ _)]
    exact dpT_M hp hs H p (Nat.le_refl _) (by omega))
  rw [Nat.max_eq_left e1] at q
  rw [q]
  refine Nat.le_antisymm (Nat.max_le.mpr ⟨w1.1, mxN_le _ (fun p hp' => ?_)⟩) (Nat.le_trans ?_ (Nat.le_max_right _ _))
  · by_cases e : p = p0
    · rw [if_pos e, e, sm_1' w1.2]
      exact Nat.le_refl _
    · rw [if_neg e, sm_0']
      exact Nat.zero_le _
  · refine Nat.le_trans ?_ (mxN_ge _ _ p0 hp0)
    rw [if_pos rfl, sm_1' w1.2]
    exact Nat.le_refl _
end MOSTL
