/-! THE MOST STEPS: the class's rounds -/
section MOSTC
variable {P : PG} {o a1 : Nat} {cn : Nat → Nat → Nat → Bool}
theorem S2_toPop {M : MM} (w : Wl M) {A B : Nat → Nat} (h : ABr M 54 56 A B) {p g q : Nat} (hp : p < 5) (hg : g < 6) (hq : q < 5) : f2_toPop M 48 (nI p) (nI g) (nI q) = some (vv (A (5 * (6 * p + g) + q)), M) := by
  unfold f2_toPop f2_headOf
  rw [aO_48 w, cI_some, r_48_3 w, aO_55 w, hd_e, lit_5, nI_mulN, nI_add, g_55 w, cJ_some, Nat.mul_comm, gJ_in (by omega) (by omega), h.1 _ (by omega)]
theorem L2_toPopBy {M : MM} (hd : HdC M a1 P o cn) (hp : WP P) {A B : Nat → Nat} (h : ABr M 54 56 A B) (bA : ∀ i, A i ≤ CAPN + 1) {r q : Nat} (hr : r < pR P) (h2 : rn P r = 2) (hq : q < 5) : ∀ (d j : Nat), j + d = pS P → ∀ f, d < f →
    LP8 f2_toPopBy_b78_body f M 48 (nI q) (nI (rt P r)) (nI (ra P r)) (nI (rb P r)) (vv (mxN (fun s => sm 2 (sm (A (5 * hT P r + s)) (A (5 * (6 * s + rb P r) + q)))) j)) (nI j) = some (vv (mxN (fun s => sm 2 (sm (A (5 * hT P r + s)) (A (5 * (6 * s + rb P r) + q)))) (pS P)), M)
  | 0, j, hj, f + 1, _ => by
    obtain ⟨w, h1, h2', -⟩ := id hd
    have p5 := hp.1
    have e : j = pS P := by omega
    rw [e, LP8_s]
    generalize LP8 f2_toPopBy_b78_body f = K
    unfold f2_toPopBy_b78_body
    rw [aO_48 w, h1, h2'.o w, h2'.s, if_pos (nI_le (Nat.le_refl _) (by omega))]
  | d + 1, j, hj, f + 1, hf => by
    obtain ⟨w, h1, h2', -⟩ := id hd
    have p5 := hp.1
    have t5 := hp.t5 hr
    have a6 := hp.a6 hr (by omega)
    have b6 := hp.b6 hr (by omega)
    have ih := L2_toPopBy hd hp h bA hr h2 hq d (j + 1) (by omega) f (by omega)
    rw [LP8_s]
    generalize LP8 f2_toPopBy_b78_body f = K at ih ⊢
    unfold f2_toPopBy_b78_body
    rw [aO_48 w, h1, h2'.o w, h2'.s, if_neg (nI_ge (by omega) (by omega)), aO_48 w, S2_toPop w h t5 a6 (by omega), cJ_some, aO_48 w, S2_toPop w h (by omega) b6 hq, cJ_some, S2_joined (bA _) (bA _), cJ_some, mxL_vv (mxN_le _ (fun s _ => sm_le _ _)) (sm_le _ _), bW_e, nI_1]
    exact ih
theorem S2_toPopBy {M : MM} (hd : HdC M a1 P o cn) (hp : WP P) {A B : Nat → Nat} (h : ABr M 54 56 A B) (bA : ∀ i, A i ≤ CAPN + 1) {r q : Nat} (hr : r < pR P) (hq : q < 5) : f2_toPopBy M 48 (nI r) (nI q) = some (vv (FAm P A r q), M) := by
  obtain ⟨w, h1, h2, -⟩ := id hd
  have n2 := hp.n2 hr
  have t5 := hp.t5 hr
  have c1 : 1 ≤ CAPN + 1 := by unfold CAPN; omega
  unfold f2_toPopBy
  rw [aO_48 w, h1, h2.o w, S7_or2 w h2 hr hp, cI_some, aO_48 w, h1, h2.o w, S7_or4 w h2 hr hp, cI_some, aO_48 w, h1, h2.o w, S7_or5 w h2 hr hp, cI_some]
  unfold FAm
  by_cases c0 : rn P r = 0
  · simp only [if_pos c0, if_true, c_eq (show rt P r < 2 ^ 31 by omega) (show q < 2 ^ 31 by omega)]
    by_cases e : rt P r = q
    · rw [if_pos e, if_pos e]
      rfl
    · rw [if_neg e, if_neg e]
      rfl
  · have a6 := hp.a6 hr (by omega)
    simp only [if_neg c0]
    rw [if_neg (nI_neM (by omega))]
    by_cases c1' : rn P r = 1
    · rw [if_pos (show rn P r ≤ 1 by omega), if_pos rfl, if_pos c1', aO_48 w, S2_toPop w h t5 a6 hq, cJ_some, vv_1, S2_joined c1 (bA _), cJ_some, sm_1' (bA _)]
      rfl
    · have b6 := hp.b6 hr (by omega)
      rw [if_neg (show ¬ rn P r ≤ 1 by omega), if_neg (nI_neM (by omega)), if_neg c1']
      exact L2_toPopBy hd hp h bA hr (by omega) hq (pS P) 0 (by omega) FU (FU_big (by have := hp.1; omega))
theorem S2_toPopFirst {M : MM} (hd : HdC M a1 P o cn) (hp : WP P) {A B : Nat → Nat} (h : ABr M 54 56 A B) (bA : ∀ i, A i ≤ CAPN + 1) {r q : Nat} (hr : r < pR P) (h1 : 1 ≤ rn P r) (hq : q < 5) : f2_toPopFirst M 48 (nI r) (nI q) = some (vv (max 1 (A (5 * hT P r + q))), M) := by
  obtain ⟨w, h1', h2, -⟩ := id hd
  have t5 := hp.t5 hr
  have a6 := hp.a6 hr h1
  unfold f2_toPopFirst
  rw [aO_48 w, h1', h2.o w, S7_or2 w h2 hr hp, cI_some, aO_48 w, h1', h2.o w, S7_or4 w h2 hr hp, cI_some, aO_48 w, if_neg (by omega), S2_toPop w h t5 a6 hq, cJ_some, vv_1, mxL_vv (by unfold CAPN; omega) (bA _)]
  rfl
/-- a rule's turn, as far as states below j -/
def stj (P : PG) (A : Nat → Nat) (r j : Nat) : Nat → Nat := fun i => if i / 5 = hdR P r ∧ i % 5 < j then max (A i) (FAm P A r (i % 5)) else A i
def stB (P : PG) (cn : Nat → Nat → Nat → Bool) (A B : Nat → Nat) (r : Nat) : Nat → Nat := fun x => if x = hdR P r then max (B x) (FBc P cn A B r) else B x
theorem stj_s {A : Nat → Nat} {r j : Nat} (hj : j < 5) : stj P A r (j + 1) = upx (stj P A r j) (5 * hdR P r + j) (max (A (5 * hdR P r + j)) (FAm P A r j)) := by
  funext i
  rw [upx_e]
  unfold stj
  by_cases e : i = 5 * hdR P r + j
  · rw [if_pos (by omega), if_pos e, e, show (5 * hdR P r + j) % 5 = j by omega]
  · rw [if_neg e]
    by_cases c : i / 5 = hdR P r ∧ i % 5 < j
    · rw [if_pos c, if_pos (by omega)]
    · rw [if_neg c, if_neg (by omega)]
theorem stj_le {A : Nat → Nat} {r j : Nat} (i : Nat) : A i ≤ stj P A r j i := by
  unfold stj
  split
  · exact Nat.le_max_left _ _
  · exact Nat.le_refl _
theorem stj_bd {A : Nat → Nat} (bA : ∀ i, A i ≤ CAPN + 1) {r j : Nat} (i : Nat) : stj P A r j i ≤ CAPN + 1 := by
  unfold stj
  split
  · exact Nat.max_le.mpr ⟨bA i, FAm_bd⟩
  · exact bA i
theorem stj_off {A : Nat → Nat} {r j i : Nat} (h : i / 5 ≠ hdR P r) : stj P A r j i = A i := if_neg (fun q => h q.1)
theorem stj_ge {A : Nat → Nat} {r j : Nat} (hj : j < 5) : stj P A r j (5 * hdR P r + j) = A (5 * hdR P r + j) := if_neg (by omega)
theorem L2_len118 {M0 : MM} (hd0 : HdC M0 a1 P o cn) (hp : WP P) {A B : Nat → Nat} (bA : ∀ i, A i ≤ CAPN + 1) {r : Nat} (hr : r < pR P) (nl : NL P A r) : ∀ (d j : Nat), j + d = pS P → ∀ f, d < f → ∀ M c, Sm [] [54, 56] M0 M → ABr M 54 56 (stj P A r j) B →
    ∃ M' c', LP6 f2_lengthensBy_b118_body f M 48 (nI r) (bI c) (nI (hdR P r)) (nI j) = some (bI c', M') ∧ Sm [] [54, 56] M0 M' ∧ ABr M' 54 56 (stj P A r (pS P)) B ∧ (c' = false → c = false ∧ ∀ q, j ≤ q → q < pS P → FAm P A r q ≤ A (5 * hdR P r + q))
  | 0, j, hj, f + 1, _, M, c, s, h => by
    have hd : HdC M a1 P o cn := hd0.sm s (by decide) (by decide)
    obtain ⟨w, h1, h2, -⟩ := id hd
    have p5 := hp.1
    have e : j = pS P := by omega
    refine ⟨M, c, ?_, s, by rw [← e]; exact h, fun q => ⟨q, fun q z1 z2 => by omega⟩⟩
    rw [e, LP6_s]
    generalize LP6 f2_lengthensBy_b118_body f = K
    unfold f2_lengthensBy_b118_body
    rw [aO_48 w, h1, h2.o w, h2.s, if_pos (nI_le (Nat.le_refl _) (by omega)), gd_e (bI_gd _)]
  | d + 1, j, hj, f + 1, hf, M, c, s, h => by
    have hd : HdC M a1 P o cn := hd0.sm s (by decide) (by decide)
    obtain ⟨w, h1, h2, -⟩ := id hd
    have p5 := hp.1
    have j5 : j < 5 := by omega
    have hl := hd_lt hp hr
    have ih := L2_len118 hd0 hp (B := B) bA hr nl d (j + 1) (by omega) f (by omega)
    have eF : FAm P (stj P A r j) r j = FAm P A r j := FAm_nl hp hr nl (fun i hi => stj_off hi) j5
    have idx : 5 * hdR P r + j < 150 := by omega
    have cell : mJ M 56 (5 * hdR P r + j) = vv (A (5 * hdR P r + j)) := by rw [h.1 _ idx, stj_ge j5]
    have head : LP6 f2_lengthensBy_b118_body (f + 1) M 48 (nI r) (bI c) (nI (hdR P r)) (nI j) = if FAm P A r j ≤ A (5 * hdR P r + j) then LP6 f2_lengthensBy_b118_body f M 48 (nI r) (bI c) (nI (hdR P r)) (nI (j + 1)) else LP6 f2_lengthensBy_b118_body f (uJ M 56 (upx (mJ M 56) (5 * hdR P r + j) (vv (FAm P A r j)))) 48 (nI r) (bI true) (nI (hdR P r)) (nI (j + 1)) := by
      rw [LP6_s]
      generalize LP6 f2_lengthensBy_b118_body f = K
      unfold f2_lengthensBy_b118_body f2_lengthensBy_b177
      rw [aO_48 w, h1, h2.o w, h2.s, if_neg (nI_ge (by omega) (by omega)), aO_48 w, S2_toPopBy hd hp h (stj_bd bA) hr j5, cJ_some, eF, aO_48 w, r_48_3 w, aO_55 w, lit_5, nI_mulN, nI_add, Nat.mul_comm (hdR P r) 5, g_55 w, cJ_some, gJ_in idx (by omega), cell, nI_1]
      simp only [vv_le (FAm_bd (P := P) (A := A) (r := r) (q := j)) (bA (5 * hdR P r + j))]
      by_cases q : FAm P A r j ≤ A (5 * hdR P r + j)
      · rw [if_pos q, if_pos q]
      · rw [if_neg q, if_neg q, aO_48 w, r_48_3 w, aO_55 w, s_55 w, cV_some, pJ_in idx (by omega)]
        rfl
    rw [head]
    by_cases q : FAm P A r j ≤ A (5 * hdR P r + j)
    · have e0 : stj P A r (j + 1) = stj P A r j := by
        rw [stj_s j5, Nat.max_eq_left q]
        funext i
        rw [upx_e]
        split
        · next z => rw [z, stj_ge j5]
        · rfl
      obtain ⟨M', c', k1, k2, k3, k4⟩ := ih M c s (by rw [e0]; exact h)
      refine ⟨M', c', by rw [if_pos q]; exact k1, k2, k3, fun z => ⟨(k4 z).1, fun q' z1 z2 => ?_⟩⟩
      by_cases e : q' = j
      · rw [e]
        exact q
      · exact (k4 z).2 q' (by omega) z2
    · obtain ⟨M', c', k1, k2, k3, k4⟩ := ih (uJ M 56 (upx (mJ M 56) (5 * hdR P r + j) (vv (FAm P A r j)))) true (s.uJ _ (by decide)) ⟨fun i hi => by
          rw [mJ_uJ, if_pos rfl, upx_e, stj_s j5, upx_e]
          by_cases e : i = 5 * hdR P r + j
          · rw [if_pos e, if_pos e, Nat.max_eq_right (by omega)]
          · rw [if_neg e, if_neg e, h.1 i hi], fun x hx => by
          rw [mJ_uJ, if_neg (by decide)]
          exact h.2 x hx⟩
      exact ⟨M', c', by rw [if_neg q]; exact k1, k2, k3, fun z => by have := (k4 z).1; cases this⟩
theorem L2_len7 {M : MM} (hd : HdC M a1 P o cn) (hp : WP P) {A B : Nat → Nat} (h : ABr M 54 56 A B) (bA : ∀ i, A i ≤ CAPN + 1) (bB : ∀ x, 1 ≤ B x ∧ B x ≤ CAPN + 1) {r : Nat} (hr : r < pR P) : ∀ (d j : Nat), j + d = pS P → ∀ f, d < f →
    LP6 f2_lengthensBy_b7_body f M 48 (nI r) (bI false) (vv (fbc P cn A B r j)) (nI j) = if FBc P cn A B r ≤ B (hdR P r) then f2_lengthensBy_b115 M 48 (nI r) (bI false) (nI (hdR P r)) else f2_lengthensBy_b115 (uJ M 54 (upx (mJ M 54) (hdR P r) (vv (FBc P cn A B r)))) 48 (nI r) (bI true) (nI (hdR P r))
  | 0, j, hj, f + 1, _ => by
    obtain ⟨w, h1, h2, -⟩ := id hd
    have p5 := hp.1
    have hl := hd_lt hp hr
    have e : j = pS P := by omega
    rw [e, LP6_s]
    generalize LP6 f2_lengthensBy_b7_body f = K
    unfold f2_lengthensBy_b7_body
    rw [aO_48 w, h1, h2.o w, h2.s, if_pos (nI_le (Nat.le_refl _) (by omega)), aO_48 w, S2_headOfRule hd hp hr, cI_some, aO_48 w, r_48_2 w, aO_53 w, g_53 w, cJ_some, gJ_in hl (by omega), h.2 _ hl]
    show (if vv (FBc P cn A B r) ≤ _ then _ else _) = _
    simp only [vv_le (show FBc P cn A B r ≤ CAPN + 1 from fbc_bd) (bB (hdR P r)).2]
    by_cases q : FBc P cn A B r ≤ B (hdR P r)
    · rw [if_pos q, if_pos q]
    · rw [if_neg q, if_neg q, aO_48 w, r_48_2 w, aO_53 w, s_53 w, cV_some, pJ_in hl (by omega)]
      rfl
  | d + 1, j, hj, f + 1, hf => by
    obtain ⟨w, h1, h2, -⟩ := id hd
    have p5 := hp.1
    have j5 : j < 5 := by omega
    have t5 := hp.t5 hr
    have n2 := hp.n2 hr
    have ih := L2_len7 hd hp h bA bB hr d (j + 1) (by omega) f (by omega)
    refine Eq.trans ?_ ih
    rw [LP6_s]
    generalize LP6 f2_lengthensBy_b7_body f = K
    unfold f2_lengthensBy_b7_body f2_lengthensBy_b76 f2_lengthensBy_b51
    rw [aO_48 w, h1, h2.o w, h2.s, if_neg (nI_ge (by omega) (by omega)), aO_48 w, S2_beh hd hp hr j5, cI_some, nI_1]
    by_cases q : rn P r = 2 ∧ cn (rt P r) (ra P r) j = true
    · have a6 := hp.a6 hr (by omega)
      have b6 := hp.b6 hr (by omega)
      have m1 : max 1 (A (5 * hT P r + j)) ≤ CAPN + 1 := Nat.max_le.mpr ⟨by unfold CAPN; omega, bA _⟩
      have c2 : 2 ≤ CAPN + 1 := by unfold CAPN; omega
      have bb := bB (6 * j + rb P r)
      rw [if_pos q, if_neg (nI_neM (by omega)), if_neg (nI_neM (by omega)), aO_48 w, S2_toPopFirst hd hp h bA hr (by omega) j5, cJ_some, vv_2, S4_sv c2 m1 (by omega) (by omega), cJ_some, aO_48 w, r_48_2 w, aO_53 w, g_53 w, cJ_some, gJ_in (by omega) (by omega), h.2 _ (by omega), S4_sv (sm_le _ _) bb.2 (sm_ne (by omega) (by omega)) (by omega), cJ_some, mxL_vv fbc_bd (sm_le _ _), bW_e]
      have e : fbc P cn A B r (j + 1) = max (fbc P cn A B r j) (sm (sm 2 (max 1 (A (5 * hT P r + j)))) (B (6 * j + rb P r))) := by
        unfold fbc
        show max _ (max _ (if rn P r = 2 ∧ cn (rt P r) (ra P r) j = true then _ else _)) = _
        rw [if_pos q, Nat.max_assoc]
      rw [e]
      show K M 48 (nI r) (bI false) _ (nI j + 1) = _
      rw [nI_1]
    · rw [if_neg q, if_pos rfl]
      have e : fbc P cn A B r (j + 1) = fbc P cn A B r j := by
        unfold fbc
        show max _ (max _ (if rn P r = 2 ∧ cn (rt P r) (ra P r) j = true then _ else _)) = _
        rw [if_neg q, Nat.max_eq_left (Nat.zero_le _)]
      rw [e]
theorem S2_lengthens {M : MM} (hd : HdC M a1 P o cn) (hp : WP P) {A B : Nat → Nat} (h : ABr M 54 56 A B) (bA : ∀ i, A i ≤ CAPN + 1) (bB : ∀ x, 1 ≤ B x ∧ B x ≤ CAPN + 1) {r : Nat} (hr : r < pR P) (nl : NL P A r) :
    ∃ M' c, f2_lengthensBy M 48 (nI r) = some (bI c, M') ∧ Sm [] [54, 56] M M' ∧ ABr M' 54 56 (stj P A r (pS P)) (stB P cn A B r) ∧ (c = false → (∀ q, q < pS P → FAm P A r q ≤ A (5 * hdR P r + q)) ∧ FBc P cn A B r ≤ B (hdR P r)) := by
  obtain ⟨w, h1, h2, -⟩ := id hd
  have p5 := hp.1
  have t5 := hp.t5 hr
  have hl := hd_lt hp hr
  obtain ⟨n, hn⟩ : ∃ n, FU = n + 1 := ⟨FU - 1, by have : (8 : Nat) < FU := FU_big (by omega); omega⟩
  have q := L2_len7 hd hp h bA bB hr (pS P) 0 (by omega) n (by have : (8 : Nat) < FU := FU_big (by omega); omega)
  have e : f2_lengthensBy M 48 (nI r) = LP6 f2_lengthensBy_b7_body n M 48 (nI r) (bI false) (vv (fbc P cn A B r 0)) (nI 0) := by
    have c2 : 2 ≤ CAPN + 1 := by unfold CAPN; omega
    have c1 : 1 ≤ CAPN + 1 := by unfold CAPN; omega
    unfold f2_lengthensBy f2_lengthensBy_b7
    rw [hn, LP6_s]
    generalize LP6 f2_lengthensBy_b7_body n = K
    unfold f2_lengthensBy_b7_body f2_lengthensBy_b76 f2_lengthensBy_b51 fbc
    rw [aO_48 w, h1, h2.o w, h2.s, if_neg (show ¬ nI (pS P) ≤ -1 from nI_leM (by omega)), aO_48 w, S2_behTop hd hp hr, cI_some, nI_M1]
    by_cases c0 : rn P r = 0
    · rw [if_pos c0, if_pos rfl, if_pos c0]
      rfl
    · have a6 := hp.a6 hr (by omega)
      have bb := bB (6 * rt P r + ra P r)
      rw [if_neg c0, if_neg (nI_neM (by omega)), if_pos rfl, vv_2, vv_1, S4_sv c2 c1 (by omega) (by omega), cJ_some, sm_1 c2, aO_48 w, r_48_2 w, aO_53 w, g_53 w, cJ_some, gJ_in (by omega) (by omega), h.2 _ (by omega), S4_sv c2 bb.2 (by omega) (by omega), cJ_some, mxL_vv c2 (sm_le _ _), bW_e, if_neg c0]
      show K M 48 (nI r) 0 (vv (max 2 (sm 2 (B (6 * rt P r + ra P r))))) (-1 + 1) = K M 48 (nI r) (bI false) (vv (max (max 2 (sm 2 (B (hT P r)))) 0)) (nI 0)
      rw [Nat.max_eq_left (Nat.zero_le _)]
      rfl
  have s0 : stj P A r 0 = A := by
    funext i
    exact if_neg (by omega)
  rw [e, q]
  by_cases c : FBc P cn A B r ≤ B (hdR P r)
  · have eB : stB P cn A B r = B := by
      funext x
      unfold stB
      split
      · next z => rw [z, Nat.max_eq_left c]
      · rfl
    obtain ⟨M', c', k1, k2, k3, k4⟩ := L2_len118 hd hp (B := B) bA hr nl (pS P) 0 (by omega) FU (FU_big (by omega)) M false (Sm.rfl _ _ M) (by rw [s0]; exact h)
    exact ⟨M', c', by rw [if_pos c]; exact k1, k2, by rw [eB]; exact k3, fun z => ⟨fun q hq => (k4 z).2 q (Nat.zero_le _) hq, c⟩⟩
  · obtain ⟨M', c', k1, k2, k3, k4⟩ := L2_len118 hd hp (B := stB P cn A B r) bA hr nl (pS P) 0 (by omega) FU (FU_big (by omega)) (uJ M 54 (upx (mJ M 54) (hdR P r) (vv (FBc P cn A B r)))) true ((Sm.rfl _ _ M).uJ _ (by decide)) (by
      rw [s0]
      refine ⟨fun i hi => ?_, fun x hx => ?_⟩
      · rw [mJ_uJ, if_neg (by decide)]
        exact h.1 i hi
      · rw [mJ_uJ, if_pos rfl, upx_e]
        unfold stB
        by_cases z : x = hdR P r
        · rw [if_pos z, if_pos z, z, Nat.max_eq_right (by omega)]
        · rw [if_neg z, if_neg z, h.2 x hx])
    exact ⟨M', c', by rw [if_neg c]; exact k1, k2, k3, fun z => by have := (k4 z).1; cases this⟩
theorem stj_trn (hp : WP P) {A B : Nat → Nat} {r : Nat} : Trn P A B r (FBc P cn A B r) (stj P A r (pS P)) (stB P cn A B r) := by
  refine ⟨stj_le, fun x => ?_, fun i hi => stj_off hi, fun i hi => if_neg (fun z => hi z.2), fun x hx => if_neg hx, fun _ => ⟨fun q hq => ?_, if_pos rfl⟩⟩
  · unfold stB
    split
    · exact Nat.le_max_left _ _
    · exact Nat.le_refl _
  · have p5 := hp.1
    show (if (5 * hdR P r + q) / 5 = hdR P r ∧ (5 * hdR P r + q) % 5 < pS P then _ else _) = _
    rw [show (5 * hdR P r + q) % 5 = q by omega, if_pos ⟨by omega, hq⟩]
end MOSTC
