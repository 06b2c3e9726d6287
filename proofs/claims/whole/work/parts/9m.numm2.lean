/-! MACHINES: numbers of nodes, at the reference (behind) -/
section NUMM2
variable {P : PG} {o : Nat}
def FB4 (G : Nat) (q : Nat) (v : Nat → Nat) (k : Nat) : Prop := ∀ k', k' < k → k' < q → k' ≤ mvN v (G * k')
theorem LM_ly40 {M0 : MM} (w0 : Wl M0) (pg0 : PgM M0 P o) (hp : WP P) {n m : Nat} {t : Nat → Nat → Nat} {K : Nat → Nat} (mt0 : MT M0 P n t) (pk0 : PK M0 113 n K) (hm : m ≤ n) (hK : ∀ i, i < n → K i < m) : ∀ (d k : Nat), k + d = 7204 → ∀ f, d < f → ∀ M os q v, Sm [86, 115, 116] [] M0 M → (∀ x, x ≠ 52 → mI M 86 x = mI M0 86 x) → NO M n m K os q → k ≤ q → SC (pG P) t K os q (pG P * k) v → FB4 (pG P) k v k →
    ∃ M' os' q' v', LP3 f12_layMachine_b40_body f M 86 (nI k) = some M' ∧ Sm [86, 115, 116] [] M0 M' ∧ (∀ x, x ≠ 52 → mI M' 86 x = mI M0 86 x) ∧ NO M' n m K os' q' ∧ (0 < q → os' 0 = os 0) ∧ SC (pG P) t K os' q' (pG P * q') v' ∧ FB4 (pG P) q' v' q'
  | d, k, hd, 0, hf, _, _, _, _, _, _, _, _, _, _ => absurd hf (Nat.not_lt_zero _)
  | d, k, hd, f + 1, hf, M, os, q, v, s, fl, no, hk, sc, fb => by
    have w := w0.sm s
    have le := mt0.2.1
    have hq := no.le hK
    by_cases c : q ≤ k
    · have e : k = q := by omega
      rw [e] at sc fb ⊢
      refine ⟨M, os, q, v, ?_, s, fl, no, fun _ => rfl, sc, fb⟩
      rw [LP3_s]
      generalize LP3 f12_layMachine_b40_body f = K1
      unfold f12_layMachine_b40_body
      rw [aO_86 w, no.1, if_pos (nI_le (Nat.le_refl _) (by omega))]
    · cases d with
      | zero => omega
      | succ d =>
        obtain ⟨M1, os1, q1, v1, k1, k2, k3, k4, k5, k6, k7, k8⟩ := LM_ly50 w0 pg0 hp mt0 pk0 hm hK (k := k) (pG P) 0 (by omega) FU (FU_big (by have := hp.2.1; omega)) M os q v s fl no (by omega) sc
        have same : ∀ k', k' ≤ k → mvN v1 (pG P * k') = mvN v (pG P * k') := fun k' hk' => mvN_cg _ (fun i hi => k8 i (by
          have : pG P * k' ≤ pG P * k := Nat.mul_le_mul_left _ hk'
          omega))
        obtain ⟨M', os', q', v', z1, z2, z3, z4, z5, z6, z7⟩ := LM_ly40 w0 pg0 hp mt0 pk0 hm hK d (k + 1) (by omega) f (by omega) M1 os1 q1 v1 k2 k3 k4 (by omega) k7 (fun k' h1 h2 => by
          rw [same k' (by omega)]
          by_cases e : k' = k
          · rw [e]
            have := sc.2
            omega
          · exact fb k' (by omega) (by omega))
        refine ⟨M', os', q', v', ?_, z2, z3, z4, fun h0 => (z5 (by omega)).trans k6, z6, z7⟩
        rw [← z1, ← k1 (LP3 f12_layMachine_b40_body f), LP3_s]
        generalize LP3 f12_layMachine_b40_body f = K1
        unfold f12_layMachine_b40_body
        rw [aO_86 w, no.1, if_neg (nI_ge (by omega) (by omega))]
        rfl
theorem LM_ly6 {M0 : MM} (w0 : Wl M0) {m : Nat} (hm : m ≤ 7203) (h48 : mI M0 86 48 = nI m) (x : Int32) : ∀ (d j : Nat), j + d = m → ∀ f, d < f → ∀ M, Sm [116] [] M0 M → (∀ i, i < j → mI M 116 i = -1) → ∃ M', LP4 f12_layMachine_b6_body f M 86 x (nI j) = (cI (f12_nodeFor (sI M' 86 52 0) 86 x) fun r34 M34 => f12_layMachine_b40 M34 86 0) ∧ Sm [116] [] M0 M' ∧ ∀ i, i < m → mI M' 116 i = -1
  | 0, j, hj, f + 1, _, M, s, h => by
    have w := w0.sm s
    have w' : Wl (sI M 86 52 0) := w
    have e : j = m := by omega
    rw [e] at h ⊢
    refine ⟨M, ?_, s, h⟩
    rw [LP4_s]
    generalize LP4 f12_layMachine_b6_body f = K
    unfold f12_layMachine_b6_body
    rw [aO_86 w, s.i 86 (by decide), h48, if_pos (nI_le (Nat.le_refl _) (by omega)), aO_86 w, bM_e, aO_86 w']
  | d + 1, j, hj, f + 1, hf, M, s, h => by
    have w := w0.sm s
    obtain ⟨M', k1, k2⟩ := LM_ly6 w0 hm h48 x d (j + 1) (by omega) f (by omega) (uI M 116 (upx (mI M 116) j (-1))) (s.uI _ (by decide)) (fun i hi => by
      rw [mI_uI, if_pos rfl, upx_e]
      by_cases e : i = j
      · rw [if_pos e]
      · rw [if_neg e, h i (by omega)])
    refine ⟨M', ?_, k2⟩
    rw [← k1, LP4_s]
    generalize LP4 f12_layMachine_b6_body f = K
    unfold f12_layMachine_b6_body
    rw [aO_86 w, s.i 86 (by decide), h48, if_neg (nI_ge (by omega) (by omega)), aO_86 w, r_86_51 w, aA_116 w (by omega), bM_e, sI_e, nI_clamp (by omega), nI_1]
/-- the reference's nodes, numbered from p -/
def NdI (M : MM) (P : PG) (o p : Nat) (F : Nat → Nat) (n : Nat) (S : Nat → Nat) (t : Nat → Nat → Nat) (K : Nat → Nat) (m : Nat) (os : Nat → Nat) (q : Nat) (v : Nat → Nat) : Prop := Net P o (gTG P) F ∧ BM M P F n S ∧ MT M P n t ∧ (∀ p, p < pS P → p < n ∧ S p = 2 ^ p) ∧ (∀ i g, i < n → g < pG P → S (t i g) = stp 21 (mM (gTG P) F) (S i) g) ∧ PK M 113 n K ∧ m ≤ n ∧ (∀ i, i < n → K i < m) ∧ (∀ i j, i < n → j < n → (K i = K j ↔ ∀ w, GW (pG P) w → avS 21 (mM (gTG P) F) (isE (gTG P)) (S i) w = avS 21 (mM (gTG P) F) (isE (gTG P)) (S j) w)) ∧ NO M n m K os q ∧ os 0 = p ∧ SC (pG P) t K os q (pG P * q) v ∧ FB4 (pG P) q v q
theorem SM_layMachine {M : MM} {nw : NW} (h : CoM M P o nw) (ht : ToldOK M P o) (hm : MaM M P o) {p : Nat} (hp0 : p < pS P) : ∃ M' F n S t K m os q v, f12_layMachine M 86 (nI p) = some M' ∧ Sm [86, 95, 96, 97, 98, 111, 112, 113, 114, 115, 116] [99] M M' ∧ (∀ x, x ≠ 30 → x ≠ 31 → x ≠ 47 → x ≠ 48 → x ≠ 49 → x ≠ 52 → mI M' 86 x = mI M 86 x) ∧ CoM M' P o nw ∧ ToldOK M' P o ∧ MaM M' P o ∧ NdI M' P o p F n S t K m os q v ∧ ∃ F', NtM M' P o F' := by
  have w := h.w
  have hp := h.p
  have p5 := hp.1
  obtain ⟨M1, a1, a2, a3, a4, a5, a6, ⟨F', nt⟩, F, n, S, t, K, m, b1, b2, b3, b4, b5, b6, b7, b8, b9, b10⟩ := SM_layMachines h ht hm
  have w1 := a4.w
  have le := b3.2.1
  obtain ⟨M2, c1, c2, c3⟩ := LM_ly6 w1 (show m ≤ 7203 by omega) b7 (nI p) m 0 (by omega) FU (FU_big (by omega)) M1 (Sm.rfl _ _ _) (fun i hi => absurd hi (Nat.not_lt_zero _))
  obtain ⟨M3, hM3⟩ : ∃ M3, M3 = sI M2 86 52 0 := ⟨_, rfl⟩
  have s3 : Sm [86, 115, 116] [] M1 M3 := by rw [hM3, sI_e]; exact (c2.more (by decide) (by decide)).uI _ (by decide)
  have f3 : ∀ x, x ≠ 52 → mI M3 86 x = mI M1 86 x := fun x hx => by rw [hM3, mI_sI, if_neg (fun z => hx z.2), c2.i 86 (by decide)]
  have w3 := w1.sm s3
  have no3 : NO M3 n m K (fun _ => 0) 0 := ⟨by rw [hM3, mI_sI, if_pos ⟨rfl, rfl⟩]; rfl, fun k hk => absurd hk (Nat.not_lt_zero _), fun a b ha => absurd ha (Nat.not_lt_zero _), fun x hx => .inl ⟨by rw [hM3, sI_e, mI_uI, if_neg (by decide)]; exact c3 x hx, fun k hk => absurd hk (Nat.not_lt_zero _)⟩⟩
  obtain ⟨M4, q4, os4, k4, d1, d2, d3, d4, d5, d6, d7, d8⟩ := SM_nodeFor w3 no3 (b6.sm s3 (by decide)) le b8 b9 (b4 p hp0).1
  have s4 : Sm [86, 115, 116] [] M1 M4 := s3.trans d2
  have f4 : ∀ x, x ≠ 52 → mI M4 86 x = mI M1 86 x := fun x hx => (d3 x hx).trans (f3 x hx)
  have e4 : q4 = 1 ∧ os4 0 = p := by
    rcases d8 with z | ⟨z1, z2, z3⟩
    · omega
    · exact ⟨z1, z3⟩
  obtain ⟨M5, os, q, v, g1, g2, g3, g4, g5, g6, g7⟩ := LM_ly40 w1 a4.pg hp b3 b6 b8 b9 7204 0 (by omega) FU (FU_big (by omega)) M4 os4 q4 (fun _ => 0) s4 f4 d4 (Nat.zero_le _) ⟨fun c0 h0 => absurd h0 (by rw [Nat.mul_zero]; exact Nat.not_lt_zero _), by rw [Nat.mul_zero, e4.1]; rfl⟩ (fun k' h1 => absurd h1 (Nat.not_lt_zero _))
  have i86 : ∀ x, x ≠ 52 → mI M5 86 x = mI M1 86 x := g3
  have ma5 : MaI M5 P o := MaI.sm ⟨F, n, S, t, K, m, b1, b2, b3, b4, b5, b6, b7, b8, b9, b10⟩ g2 (g3 47 (by decide)) (g3 48 (by decide)) (by decide)
  refine ⟨M5, F, n, S, t, K, m, os, q, v, ?_, (a2.more (by decide) (by decide)).trans (g2.more (by decide) (by decide)), fun x h1 h2 h3 h4 h5 h6 => (g3 x h6).trans (a3 x h1 h2 h3 h4 h5), ?_, ?_, .inr ⟨(g3 49 (by decide)).trans a6, ma5⟩, ⟨b1, b2.sm g2 (g3 47 (by decide)) (by decide), b3.sm g2 (g3 47 (by decide)) (by decide), b4, b5, b6.sm g2 (by decide), b8, b9, b10, g4, (g5 (by omega)).trans e4.2, g6, g7⟩, F', nt.sm g2 (g3 30 (by decide)) (g3 5 (by decide)) (by decide) (by decide)⟩
  · unfold f12_layMachine
    rw [aO_86 w, a1, cV_some]
    refine c1.trans ?_
    rw [← hM3, d1, cI_some]
    exact g1
  · exact a4.sm g2 (g3 5 (by decide)) (fun j h1 h2 => g3 j (by omega)) (by unfold SzM; rw [g2.i 96 (by decide)]; exact a4.sz) (by decide)
  · unfold ToldOK at *
    rw [g3 31 (by decide), g2.j 99 (by decide)]
    exact a5
theorem NdI.num {M : MM} {p : Nat} {F : Nat → Nat} {n : Nat} {S : Nat → Nat} {t : Nat → Nat → Nat} {K : Nat → Nat} {m : Nat} {os : Nat → Nat} {q : Nat} {v : Nat → Nat} (h : NdI M P o p F n S t K m os q v) (hp0 : p < pS P) : NumOK (pG P) q (fun k g => v (pG P * k + g)) (fun k w => avS 21 (mM (gTG P) F) (isE (gTG P)) (S (os k)) w) (fun w => avS 21 (mM (gTG P) F) (isE (gTG P)) (2 ^ p) w) := by
  obtain ⟨a1, a2, a3, a4, a5, a6, a7, a8, a9, ⟨n1, n2, n3, n4⟩, b1, ⟨b2, b3⟩, b4⟩ := h
  have cl : ∀ k g, k < q → g < pG P → pG P * k + g < pG P * q ∧ (pG P * k + g) / pG P = k ∧ (pG P * k + g) % pG P = g := fun k g hk hg => by
    have hG : 0 < pG P := by omega
    have : pG P * k + pG P ≤ pG P * q := by
      rw [← Nat.mul_succ]
      exact Nat.mul_le_mul_left _ hk
    exact ⟨by omega, by rw [Nat.mul_add_div hG, Nat.div_eq_of_lt hg, Nat.add_zero], by rw [Nat.mul_add_mod, Nat.mod_eq_of_lt hg]⟩
  have vv : ∀ c, c < pG P * q → vN (pG P) (fun k g => v (pG P * k + g)) c = v c := fun c _ => by
    show v (pG P * (c / pG P) + c % pG P) = v c
    rw [Nat.div_add_mod]
  have mm : ∀ c, c ≤ pG P * q → mvN (vN (pG P) (fun k g => v (pG P * k + g))) c = mvN v c := fun c hc => mvN_cg c (fun i hi => vv i (by omega))
  refine ⟨fun w _ => ?_, fun k g hk hg => ?_, fun a b ha hb q => ?_, fun c hc => ?_, fun k hk => ?_, ?_⟩
  · show avS 21 _ _ (S (os 0)) w = _
    rw [b1, (a4 p hp0).2]
  · obtain ⟨c1, c2, c3⟩ := cl k g hk hg
    obtain ⟨d1, d2, d3⟩ := b2 _ c1
    rw [c2, c3] at d2
    refine ⟨d1, fun w hw => ?_⟩
    have e := (a9 _ _ (n2 _ d1).2 (a3.2.2 (os k) g (n2 k hk).2 hg).2).mp d2 w hw
    show avS 21 _ _ (S (os (v (pG P * k + g)))) w = avS 21 _ _ (S (os k)) (g :: w)
    rw [e, a5 (os k) g (n2 k hk).2 hg, avS_stp]
  · exact n3 a b ha hb ((a9 _ _ (n2 a ha).2 (n2 b hb).2).mpr q)
  · rw [vv c hc, mm c (by omega)]
    exact (b2 c hc).2.2
  · rw [mm _ (Nat.mul_le_mul_left _ (by omega))]
    exact b4 k hk hk
  · rw [mm _ (Nat.le_refl _)]
    exact b3
end NUMM2
