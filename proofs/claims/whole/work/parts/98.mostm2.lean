/-! THE MOST STEPS: the reference's rounds -/
section MOSTM2
variable {P : PG} {o : Nat} {cn : Nat → Nat → Nat → Bool} {l : Nat → Bool} {rk : Nat → Nat}
def fbm (P : PG) (A B : Nat → Nat) (r j : Nat) : Nat := max (if rn P r = 0 then 1 else B (hT P r)) (mxN (fun q => if rn P r = 2 then sm (A (5 * hT P r + q)) (B (6 * q + rb P r)) else 0) j)
/-- the turn of a rule, as far as states below j -/
def Tj (P : PG) (A : Nat → Nat) (r j : Nat) (A' : Nat → Nat) : Prop := (∀ i, A i ≤ A' i) ∧ (∀ i, i / 5 ≠ hdR P r → A' i = A i) ∧ (∀ i, ¬ i % 5 < j → A' i = A i) ∧ (NL P A r → ∀ q, q < j → A' (5 * hdR P r + q) = max (A (5 * hdR P r + q)) (FAm P A r q))
theorem LM_mb66 {M0 : MM} (hd0 : HdM M0 P o cn) (hp : WP P) {A B : Nat → Nat} (bB : ∀ x, 1 ≤ B x ∧ B x ≤ CAPN + 1) {r : Nat} (hr : r < pR P) (x : Int32) (hx : 1 ≤ rn P r → x = nI (ra P r)) : ∀ (d j : Nat), j + d = pS P → ∀ f, d < f → ∀ M A1 c, Sm [] [108, 109] M0 M → ABr M 108 109 A1 B → (∀ i, A1 i ≤ CAPN + 1) → Tj P A r j A1 → c ≤ CAPN + 1 → c ≠ 0 → (NL P A r → c = fbm P A B r j) →
    ∃ M' A', LP9 f12_mostBy_b66_body f M 86 (nI r) (nI (hdR P r)) (nI (rt P r)) x (nI (rn P r)) (vv c) (nI j) = some M' ∧ Sm [] [108, 109] M0 M' ∧ (∃ B', ABr M' 108 109 A' B' ∧ Bds A' B' ∧ Trn P A B r (FBm P A B r) A' B')
  | 0, j, hj, f + 1, _, M, A1, c, s, h, bA, t, hc, c0, hcc => by
    have hd : HdM M P o cn := hd0.sm s (by rw [s.i 86 (by decide)]) (by decide) (by decide)
    obtain ⟨w, h2', -⟩ := id hd
    have p5 := hp.1
    have hl := hd_lt hp hr
    have e : j = pS P := by omega
    have c2 : 2 ≤ CAPN + 1 := by unfold CAPN; omega
    rw [e] at t hcc ⊢
    obtain ⟨t1, t2, t3, t4⟩ := t
    refine ⟨uJ M 108 (upx (mJ M 108) (hdR P r) (vv (max (B (hdR P r)) (sm 2 c)))), A1, ?_, s.uJ _ (by decide), upx B (hdR P r) (max (B (hdR P r)) (sm 2 c)), ⟨fun i hi => ?_, fun y hy => ?_⟩, ⟨bA, fun y => ?_⟩, t1, fun y => ?_, t2, t3, fun y hy => ?_, fun nl => ⟨t4 nl, ?_⟩⟩
    · rw [LP9_s]
      generalize LP9 f12_mostBy_b66_body f = K
      unfold f12_mostBy_b66_body
      rw [aO_86 w, SM_states w h2', cI_some, if_pos (nI_le (Nat.le_refl _) (by omega)), aO_86 w, aO_86 w, r_86_40 w, aA_108 w hl, vv_2, SM_sv c2 hc, cJ_some, nI_clamp (by omega), h.2 _ hl, SM_longer (bB _).2 (sm_le _ _), cJ_some, aA_108 w hl, bM_e, sJ_e]
    · rw [mJ_uJ, if_neg (by decide)]
      exact h.1 i hi
    · rw [mJ_uJ, if_pos rfl, upx_e, upx_e]
      by_cases z : y = hdR P r
      · rw [if_pos z, if_pos z]
      · rw [if_neg z, if_neg z, h.2 y hy]
    · rw [upx_e]
      split
      · exact ⟨Nat.le_trans (bB _).1 (Nat.le_max_left _ _), Nat.max_le.mpr ⟨(bB _).2, sm_le _ _⟩⟩
      · exact bB y
    · rw [upx_e]
      split
      · next z => rw [z]; exact Nat.le_max_left _ _
      · exact Nat.le_refl _
    · rw [upx_e, if_neg hy]
    · rw [upx_e, if_pos rfl, hcc nl]
      rfl
  | d + 1, j, hj, f + 1, hf, M, A1, c, s, h, bA, t, hc, c0, hcc => by
    have hd : HdM M P o cn := hd0.sm s (by rw [s.i 86 (by decide)]) (by decide) (by decide)
    obtain ⟨w, h2', -⟩ := id hd
    have p5 := hp.1
    have j5 : j < 5 := by omega
    have hl := hd_lt hp hr
    have t5 := hp.t5 hr
    have n2 := hp.n2 hr
    obtain ⟨t1, t2, t3, t4⟩ := t
    have ih := LM_mb66 hd0 hp (A := A) bB hr x hx d (j + 1) (by omega) f (by omega)
    -- what the rule tells of the state
    obtain ⟨b, hb, b1, b2⟩ : ∃ b, b ≤ CAPN + 1 ∧ LP9 f12_mostBy_b66_body (f + 1) M 86 (nI r) (nI (hdR P r)) (nI (rt P r)) x (nI (rn P r)) (vv c) (nI j) = f12_mostBy_b191 (LP9 f12_mostBy_b66_body f) M 86 (nI r) (nI (hdR P r)) (nI (rt P r)) x (nI (rn P r)) (vv c) (nI j) (vv b) ∧ (NL P A r → sm 2 b = FAm P A r j) := by
      have out : ∀ b, rn P r ≠ 2 → f12_mostBy_b122 (LP9 f12_mostBy_b66_body f) M 86 (nI r) (nI (hdR P r)) (nI (rt P r)) x (nI (rn P r)) (vv c) (nI j) b = f12_mostBy_b191 (LP9 f12_mostBy_b66_body f) M 86 (nI r) (nI (hdR P r)) (nI (rt P r)) x (nI (rn P r)) (vv c) (nI j) b := fun b hn => by
        obtain ⟨n, hn'⟩ : ∃ n, FU = n + 1 := ⟨FU - 1, by have : (8 : Nat) < FU := FU_big (by omega); omega⟩
        unfold f12_mostBy_b122 f12_mostBy_b127
        rw [hn', LP11_s]
        generalize LP11 (f12_mostBy_b127_body (LP9 f12_mostBy_b66_body f)) n = K
        unfold f12_mostBy_b127_body
        rw [aO_86 w, SM_states w h2', cI_some, if_neg (show ¬ nI (rn P r) = 2 by rw [c_eq2 (by omega)]; exact hn), ite_self]
      have c1 : 1 ≤ CAPN + 1 := by unfold CAPN; omega
      by_cases n0 : rn P r = 0
      · have o0 := fun b => out b (by omega)
        refine ⟨if rt P r = j then 1 else 0, by split <;> omega, ?_, fun _ => ?_⟩
        · rw [LP9_s]
          generalize LP9 f12_mostBy_b66_body f = K at o0 ⊢
          unfold f12_mostBy_b66_body
          rw [aO_86 w, SM_states w h2', cI_some, if_neg (nI_ge (by omega) (by omega)), if_pos (show nI (rn P r) = 0 by rw [n0]; rfl), o0, o0]
          simp only [c_eq (show j < 2 ^ 31 by omega) (show rt P r < 2 ^ 31 by omega)]
          by_cases e : rt P r = j
          · rw [if_pos e.symm, if_pos e]
            rfl
          · rw [if_neg (fun z => e z.symm), if_neg e]
            rfl
        · unfold FAm
          rw [if_pos n0]
          by_cases e : rt P r = j
          · rw [if_pos e, if_pos e, sm_1 (by unfold CAPN; omega)]
          · rw [if_neg e, if_neg e, sm_0]
      · have a6 := hp.a6 hr (by omega)
        have i1 : 5 * (6 * rt P r + ra P r) + j < 150 := by omega
        by_cases n1 : rn P r = 1
        · have o0 := fun b => out b (by omega)
          refine ⟨A1 (5 * hT P r + j), bA _, ?_, fun nl => ?_⟩
          · rw [LP9_s]
            generalize LP9 f12_mostBy_b66_body f = K at o0 ⊢
            unfold f12_mostBy_b66_body
            rw [hx (by omega)] at o0 ⊢
            rw [aO_86 w, SM_states w h2', cI_some, if_neg (nI_ge (by omega) (by omega)), if_neg (show ¬ nI (rn P r) = 0 by rw [n1]; decide), if_pos (show nI (rn P r) = 1 by rw [n1]; rfl), aO_86 w, aO_86 w, SM_popCell w, cI_some, r_86_41 w, aA_109 w i1, nI_clamp (by omega), h.1 _ i1, o0]
            rfl
          · have := nl.1 (by omega)
            unfold FAm
            rw [if_neg n0, if_pos n1, t2 _ (by omega)]
        · have n2' : rn P r = 2 := by omega
          refine ⟨mxN (fun s => sm (A1 (5 * hT P r + s)) (A1 (5 * (6 * s + rb P r) + j))) (pS P), mxN_le _ (fun s _ => sm_le _ _), ?_, fun nl => ?_⟩
          · rw [hx (by omega)]
            have q := fun K66 => LM_mb127 hd hp h ⟨bA, bB⟩ (K66 := K66) hr n2' j5 0 (vv c) (nI (hdR P r)) (pS P) 0 (by omega) FU (FU_big (by omega))
            have q := q (LP9 f12_mostBy_b66_body f)
            rw [LP9_s]
            generalize LP9 f12_mostBy_b66_body f = K at q ⊢
            unfold f12_mostBy_b66_body
            rw [aO_86 w, SM_states w h2', cI_some, if_neg (nI_ge (by omega) (by omega)), if_neg (show ¬ nI (rn P r) = 0 by rw [n2']; decide), if_neg (show ¬ nI (rn P r) = 1 by rw [n2']; decide)]
            exact q
          · have e := FAm_nl hp hr nl t2 j5
            rw [← e, mxN_sm]
            unfold FAm
            rw [if_neg n0, if_neg n1]
    obtain ⟨M1, k1, k2, k3⟩ := LM_mb191 hd hp h ⟨bA, bB⟩ (K66 := LP9 f12_mostBy_b66_body f) hr j5 hb hc (A' := upx A1 (5 * hdR P r + j) (max (A1 (5 * hdR P r + j)) (sm 2 b))) rfl x hx
    have cellj : A1 (5 * hdR P r + j) = A (5 * hdR P r + j) := t3 _ (by omega)
    have off : ∀ i, i / 5 ≠ hdR P r → upx A1 (5 * hdR P r + j) (max (A1 (5 * hdR P r + j)) (sm 2 b)) i = A i := fun i hi => by
      rw [upx_e, if_neg (by omega)]
      exact t2 i hi
    obtain ⟨M', A', z1, z2⟩ := ih M1 _ (max c (if rn P r = 2 then sm (upx A1 (5 * hdR P r + j) (max (A1 (5 * hdR P r + j)) (sm 2 b)) (5 * hT P r + j)) (B (6 * j + rb P r)) else 0)) (s.trans k2) k3 (fun i => by
        rw [upx_e]
        split
        · exact Nat.max_le.mpr ⟨bA _, sm_le _ _⟩
        · exact bA i) ⟨fun i => by
        rw [upx_e]
        split
        · next z =>
          rw [z]
          exact Nat.le_trans (t1 _) (Nat.le_max_left _ _)
        · exact t1 i, off, fun i hi => by
        rw [upx_e, if_neg (by omega)]
        exact t3 i (by omega), fun nl q hq => by
        rw [upx_e]
        by_cases e : q = j
        · rw [if_pos (by rw [e]), e, cellj, b2 nl]
        · rw [if_neg (by omega)]
          exact t4 nl q (by omega)⟩ (Nat.max_le.mpr ⟨hc, by split; exact sm_le _ _; exact Nat.zero_le _⟩) (by omega) (fun nl => by
        rw [hcc nl]
        unfold fbm
        show _ = max _ (max _ (if rn P r = 2 then sm (A (5 * hT P r + j)) (B (6 * j + rb P r)) else 0))
        rw [Nat.max_assoc]
        congr 2
        by_cases n2' : rn P r = 2
        · have := nl.1 (by omega)
          rw [if_pos n2', if_pos n2', off _ (by omega)]
        · rw [if_neg n2', if_neg n2'])
    exact ⟨M', A', (b1.trans k1).trans z1, z2⟩
theorem SM_mostBy {M : MM} (hd : HdM M P o cn) (hp : WP P) {A B : Nat → Nat} (h : ABr M 108 109 A B) (bd : Bds A B) {r : Nat} (hr : r < pR P) :
    ∃ M' A' B', f12_mostBy M 86 (nI r) = some M' ∧ Sm [] [108, 109] M M' ∧ ABr M' 108 109 A' B' ∧ Bds A' B' ∧ Trn P A B r (FBm P A B r) A' B' := by
  obtain ⟨w, h2', -⟩ := id hd
  have n2 := hp.n2 hr
  have t5 := hp.t5 hr
  have go := fun x hx c hc c0 hcc => LM_mb66 hd hp (A := A) bd.2 hr x hx (pS P) 0 (by omega) FU (FU_big (by have := hp.1; omega)) M A c (Sm.rfl _ _ M) h bd.1 ⟨fun _ => Nat.le_refl _, fun _ _ => rfl, fun _ _ => rfl, fun _ q hq => absurd hq (Nat.not_lt_zero _)⟩ hc c0 hcc
  have c1 : 1 ≤ CAPN + 1 := by unfold CAPN; omega
  by_cases c0 : rn P r = 0
  · obtain ⟨M', A', k1, k2, B', k3⟩ := go (-1) (fun q => by omega) 1 c1 (by omega) (fun _ => by
      unfold fbm
      rw [if_pos c0]
      rfl)
    refine ⟨M', A', B', ?_, k2, k3⟩
    rw [← k1]
    unfold f12_mostBy f12_head
    rw [aO_86 w, SM_r0 w h2' hp hr, cI_some, aO_86 w, SM_r1 w h2' hp hr, cI_some, aO_86 w, cI_some, hd_e', aO_86 w, SM_r2 w h2' hp hr, cI_some, aO_86 w, SM_r4 w h2' hp hr, cI_some, if_pos c0, aO_86 w, SM_r3 w h2' hp hr, cI_some, if_pos (show nI (rn P r) = 0 by rw [c0]; rfl)]
    rfl
  · have a6 := hp.a6 hr (by omega)
    have i1 : 6 * rt P r + ra P r < 30 := by omega
    have bb := bd.2 (6 * rt P r + ra P r)
    obtain ⟨M', A', k1, k2, B', k3⟩ := go (nI (ra P r)) (fun _ => rfl) (B (6 * rt P r + ra P r)) bb.2 (by omega) (fun _ => by
      unfold fbm
      rw [if_neg c0]
      show _ = max (B (hT P r)) 0
      rw [Nat.max_eq_left (Nat.zero_le _)]
      rfl)
    refine ⟨M', A', B', ?_, k2, k3⟩
    rw [← k1]
    unfold f12_mostBy f12_head
    rw [aO_86 w, SM_r0 w h2' hp hr, cI_some, aO_86 w, SM_r1 w h2' hp hr, cI_some, aO_86 w, cI_some, hd_e', aO_86 w, SM_r2 w h2' hp hr, cI_some, aO_86 w, SM_r4 w h2' hp hr, cI_some, if_neg c0, aO_86 w, SM_r3 w h2' hp hr, cI_some, if_neg (show ¬ nI (rn P r) = 0 by rw [c_eq0 (show rn P r < 2 ^ 31 by omega)]; exact c0), aO_86 w, aO_86 w, cI_some, hd_e', r_86_40 w, aA_108 w i1, nI_clamp (by omega), h.2 _ i1]
    rfl
end MOSTM2
