/-! MACHINES: numbers of nodes, at the class (behind) -/
section NUMC2
variable {P : PG} {o : Nat} {E R : Nat → Nat}
theorem L5_nf35 {M0 : MM} {ar : Nat → Nat} {d n : Nat} {S K : Nat → Nat} {t : Nat → Nat → Nat} (hp : WP P) (h0 : TC M0 ar d P E n S t) (pk0 : PKC M0 ar n K) (hK : ∀ i, i < n → K i < n) : ∀ (e k : Nat), k + e = 2341 → ∀ f, e < f → ∀ M os q v, Sm (nlL ar) [] M0 M → (∀ x, x ≠ 17 → mI M 61 x = mI M0 61 x) → NOC M ar n K os q → k ≤ q → SC (pG P) t K os q (pG P * k) v → FB4 (pG P) k v k → PA M ar (pG P) q (pG P * k) v →
    ∃ M' os' q' v', LP3 f5_numberFrom_b35_body f M 61 (nI k) = some M' ∧ Sm (nlL ar) [] M0 M' ∧ (∀ x, x ≠ 17 → mI M' 61 x = mI M0 61 x) ∧ NOC M' ar n K os' q' ∧ (0 < q → os' 0 = os 0) ∧ SC (pG P) t K os' q' (pG P * q') v' ∧ FB4 (pG P) q' v' q' ∧ PA M' ar (pG P) q' (pG P * q') v'
  | d, k, hd, 0, hf, _, _, _, _, _, _, _, _, _, _, _ => absurd hf (Nat.not_lt_zero _)
  | e, k, hd, f + 1, hf, M, os, q, v, s, fl, no, hk, sc, fb, pa => by
    obtain ⟨tc, pk⟩ := h0.num pk0 s (fun k _ hk => fl k hk)
    have w := tc.1.1.w
    have le := h0.2.2.2.1
    have hq := no.le hK
    by_cases c : q ≤ k
    · have e : k = q := by omega
      rw [e] at sc fb pa ⊢
      refine ⟨M, os, q, v, ?_, s, fl, no, fun _ => rfl, sc, fb, pa⟩
      rw [LP3_s]
      generalize LP3 f5_numberFrom_b35_body f = K1
      unfold f5_numberFrom_b35_body
      rw [aO_61 w, no.1, if_pos (nI_le (Nat.le_refl _) (by omega))]
    · cases e with
      | zero => omega
      | succ e =>
        obtain ⟨M1, os1, q1, v1, k1, k2, k3, k4, k5, k6, k7, k7', k8⟩ := L5_nf52 hp h0 pk0 hK (k := k) (pG P) 0 (by omega) FU (FU_big (by have := hp.2.1; omega)) M os q v s fl no (by omega) sc pa
        have same : ∀ k', k' ≤ k → mvN v1 (pG P * k') = mvN v (pG P * k') := fun k' hk' => mvN_cg _ (fun i hi => k8 i (by
          have : pG P * k' ≤ pG P * k := Nat.mul_le_mul_left _ hk'
          omega))
        obtain ⟨M', os', q', v', z1, z2, z3, z4, z5, z6, z7⟩ := L5_nf35 hp h0 pk0 hK e (k + 1) (by omega) f (by omega) M1 os1 q1 v1 k2 k3 k4 (by omega) k7 (fun k' h1 h2 => by
          rw [same k' (by omega)]
          by_cases e : k' = k
          · rw [e]
            have := sc.2
            omega
          · exact fb k' (by omega) (by omega)) k7'
        refine ⟨M', os', q', v', ?_, z2, z3, z4, fun h0 => (z5 (by omega)).trans k6, z6, z7⟩
        rw [← z1, ← k1 (LP3 f5_numberFrom_b35_body f), LP3_s]
        generalize LP3 f5_numberFrom_b35_body f = K1
        unfold f5_numberFrom_b35_body
        rw [aO_61 w, no.1, if_neg (nI_ge (by omega) (by omega)), show (2340 : Int32) = nI 2340 from rfl, if_neg (nI_ge (by omega) (by omega))]
        rfl
def NdN (M : MM) (ar : Nat → Nat) (P : PG) (n : Nat) (t : Nat → Nat → Nat) (K : Nat → Nat) (p : Nat) (os : Nat → Nat) (q : Nat) (v : Nat → Nat) : Prop := NOC M ar n K os q ∧ os 0 = p ∧ SC (pG P) t K os q (pG P * q) v ∧ FB4 (pG P) q v q ∧ PA M ar (pG P) q (pG P * q) v
/-- the class's machines -/
def MaQ (M : MM) (ar : Nat → Nat) (d : Nat) (P : PG) (o : Nat) (E R : Nat → Nat) (n : Nat) (S : Nat → Nat) (t : Nat → Nat → Nat) (K : Nat → Nat) : Prop := Std P o (gTG P) E R ∧ TC M ar d P E n S t ∧ PKC M ar n K ∧ KOK P E n S K
def MaC (M : MM) (ar : Nat → Nat) (d : Nat) (P : PG) (o : Nat) : Prop := ∃ E R n S t K, MaQ M ar d P o E R n S t K ∧ (mI M 61 16 = -1 ∨ ∃ p os q v, p < pS P ∧ mI M 61 16 = nI p ∧ NdN M ar P n t K p os q v)
def NdC (M : MM) (ar : Nat → Nat) (d : Nat) (P : PG) (o p : Nat) (E R : Nat → Nat) (n : Nat) (S : Nat → Nat) (t : Nat → Nat → Nat) (K os : Nat → Nat) (q : Nat) (v : Nat → Nat) : Prop := MaQ M ar d P o E R n S t K ∧ mI M 61 16 = nI p ∧ NdN M ar P n t K p os q v
theorem S5_numberFrom {M : MM} {ar : Nat → Nat} {d : Nat} (hp : WP P) (h : MaC M ar d P o) {p : Nat} (hp0 : p < pS P) : ∃ M' E R n S t K os q v, f5_numberFrom M 61 (nI p) = some M' ∧ FrC M d M' d ∧ mR M' = mR M ∧ NdC M' ar d P o p E R n S t K os q v := by
  obtain ⟨E, R, n, S, t, K, ⟨hE, tc, pk, ok⟩, hn⟩ := h
  have p5 := hp.1
  have ly := tc.1
  have w := ly.1.w
  have hr := tc.2.2.1
  have le := tc.2.2.2.1
  have rr := RMs_le ly.2.2
  by_cases c : mI M 61 16 = nI p
  · rcases hn with z | ⟨p', os, q, v, z1, z2, z3⟩
    · rw [z] at c
      exact absurd c (nI_neM' (by omega))
    · have e : p' = p := by
        rw [z2] at c
        exact (nI_eq (by omega) (by omega)).mp c
      rw [e] at z3
      refine ⟨M, E, R, n, S, t, K, os, q, v, ?_, FrC.rfl _ _, rfl, ⟨hE, tc, pk, ok⟩, c, z3⟩
      unfold f5_numberFrom
      rw [aO_61 w, if_pos c]
  · have n6 := ly.nf (b := 76) (by decide) (a := 61) (by decide) (by decide)
    have kk : ∀ b, b ∈ dI → mK M b = (6, 1) := fun b hb => by rw [ly.1.w.1 b (dI_6 hb).1, (dI_6 hb).2]
    obtain ⟨M1, hM1⟩ : ∃ M1, M1 = sI M 61 16 (nI p) := ⟨_, rfl⟩
    have s1 : Sm (nlL ar) [] M M1 := by rw [hM1, sI_e]; exact (Sm.rfl _ _ M).uI _ (by simp [nlL])
    have f1 : ∀ x, x ≠ 16 → mI M1 61 x = mI M 61 x := fun x hx => by rw [hM1, mI_sI, if_neg (fun z => hx z.2)]
    have ly1 : LY M1 ar d := ly.sm s1 (f1 12 (by decide))
    obtain ⟨M2, hM2⟩ : ∃ M2, M2 = uI M1 (ar 76) (fun k => if k < RMs d then (-1 : Int32) else mI M1 (ar 76) k) := ⟨_, rfl⟩
    have s2 : Sm (nlL ar) [] M M2 := by rw [hM2]; exact s1.uI _ (by simp [nlL])
    have i2 : mI M2 61 = mI M1 61 := by rw [hM2, mI_uI, if_neg n6]
    have ly2 : LY M2 ar d := ly.sm s2 (by rw [i2]; exact f1 12 (by decide))
    obtain ⟨M3, hM3⟩ : ∃ M3, M3 = sI M2 61 17 0 := ⟨_, rfl⟩
    have s3 : Sm (nlL ar) [] M M3 := by rw [hM3, sI_e]; exact s2.uI _ (by simp [nlL])
    have f3 : ∀ x, x ≠ 16 → x ≠ 17 → mI M3 61 x = mI M 61 x := fun x h1 h2 => by rw [hM3, mI_sI, if_neg (fun z => h2 z.2), i2]; exact f1 x h1
    have g16 : mI M3 61 16 = nI p := by rw [hM3, mI_sI, if_neg (by decide), i2, hM1, mI_sI, if_pos ⟨rfl, rfl⟩]
    obtain ⟨tc3, pk3⟩ := tc.num pk s3 f3
    have no3 : NOC M3 ar n K (fun _ => 0) 0 := ⟨by rw [hM3, mI_sI, if_pos ⟨rfl, rfl⟩]; rfl, fun k hk => absurd hk (Nat.not_lt_zero _), fun a b ha => absurd ha (Nat.not_lt_zero _), fun x hx => .inl ⟨by
      rw [hM3, sI_e, mI_uI, if_neg n6.symm, hM2, mI_uI, if_pos rfl]
      show (if x < RMs d then (-1 : Int32) else _) = _
      rw [if_pos (by omega)], fun k hk => absurd hk (Nat.not_lt_zero _)⟩⟩
    obtain ⟨M4, a1, a2, a3, a4, a5⟩ := S5_addNode tc3 pk3 ok.1 no3 (tc.2.2.2.2.2.2.1 p hp0).1 (fun k hk => absurd hk (Nat.not_lt_zero _)) (-1)
    obtain ⟨M5, os, q, v, g1, g2, g3, g4, g5, g6, g7, g8⟩ := L5_nf35 hp tc3 pk3 ok.1 2341 0 (by omega) FU (FU_big (by omega)) M4 _ (0 + 1) (fun _ => 0) a2 a3 a4 (Nat.zero_le _) ⟨fun c0 h0 => absurd h0 (by rw [Nat.mul_zero]; exact Nat.not_lt_zero _), by rw [Nat.mul_zero]; rfl⟩ (fun k' h1 => absurd h1 (Nat.not_lt_zero _)) (fun j h1 h2 => by omega)
    obtain ⟨tc5, pk5⟩ := tc3.num pk3 g2 (fun k _ h => g3 k h)
    have s5 := s3.trans g2
    refine ⟨M5, E, R, n, S, t, K, os, q, v, ?_, nlL_x ly s5, s5.r, ⟨hE, tc5, pk5, ok⟩, (g3 16 (by decide)).trans g16, g4, (g5 (by omega)).trans (by rw [upx_e, if_pos rfl]), g6, g7, g8⟩
    unfold f5_numberFrom
    have i76 : IntsAt M1 76 (ar 76) (RMs d) := ly1.1.ints (by decide)
    rw [aO_61 w, if_neg c, aO_61 w, bM_e, ← hM1, aO_61 ly1.1.w, r_61_7 ly1.1.w, ly1.oI (by decide), S3_fill i76 (by omega), cV_some, ← hM2, aO_61 ly2.1.w, bM_e, ← hM3, aO_61 tc3.1.1.w, a1, cV_some]
    exact g1
theorem NdC.num {M : MM} {ar : Nat → Nat} {d p n : Nat} {S : Nat → Nat} {t : Nat → Nat → Nat} {K os : Nat → Nat} {q : Nat} {v : Nat → Nat} (h : NdC M ar d P o p E R n S t K os q v) (hT : okT (pG P) (gTG P)) (hp0 : p < pS P) : NumOK (pG P) q (fun k g => v (pG P * k + g)) (fun k w => avS 15 (mC E) (endS (gTG P)) (S (os k)) w) (fun w => avS 15 (mC E) (endS (gTG P)) (2 ^ p) w) := by
  obtain ⟨⟨hE, tc, pk, a8, a9⟩, -, ⟨n1, n2, n3, n4⟩, b1, ⟨b2, b3⟩, b4, -⟩ := h
  have ht := tc.2.2.2.2.2.1
  have a4 := tc.2.2.2.2.2.2.1
  have cl : ∀ k g, k < q → g < pG P → pG P * k + g < pG P * q ∧ (pG P * k + g) / pG P = k ∧ (pG P * k + g) % pG P = g := fun k g hk hg => by
    have hG : 0 < pG P := by omega
    have : pG P * k + pG P ≤ pG P * q := by
      rw [← Nat.mul_succ]
      exact Nat.mul_le_mul_left _ hk
    exact ⟨by omega, by rw [Nat.mul_add_div hG, Nat.div_eq_of_lt hg, Nat.add_zero], by rw [Nat.mul_add_mod, Nat.mod_eq_of_lt hg]⟩
  have vv : ∀ c, c < pG P * q → vN (pG P) (fun k g => v (pG P * k + g)) c = v c := fun c _ => by
    show v (pG P * (c / pG P) + c % pG P) = v c
    rw [Nat.div_add_mod]
  have mm : ∀ c, c ≤ pG P * q → mvN (vN (pG P) (fun k g => v (pG P * k + g))) c = mvN v c := fun c hc => mvN_cg c (fun i hi => vv i (by omega))
  refine ⟨fun w _ => ?_, fun k g hk hg => ?_, fun a b ha hb q => ?_, fun c hc => ?_, fun k hk => ?_, ?_⟩
  · show avS 15 _ _ (S (os 0)) w = _
    rw [b1, (a4 p hp0).2]
  · obtain ⟨c1, c2, c3⟩ := cl k g hk hg
    obtain ⟨d1, d2, d3⟩ := b2 _ c1
    rw [c2, c3] at d2
    refine ⟨d1, fun w hw => ?_⟩
    obtain ⟨-, t2, t3⟩ := ht (os k) g (n2 k hk).2 hg
    have e := (a9 _ _ (n2 _ d1).2 t2).mp d2 w hw
    show avS 15 _ _ (S (os (v (pG P * k + g)))) w = avS 15 _ _ (S (os k)) (g :: w)
    rw [e, t3, avS_stC (mC_all hT hE) endS_5 hw]
  · exact n3 a b ha hb ((a9 _ _ (n2 a ha).2 (n2 b hb).2).mpr q)
  · rw [vv c hc, mm c (by omega)]
    exact (b2 c hc).2.2
  · rw [mm _ (Nat.mul_le_mul_left _ (by omega))]
    exact b4 k hk hk
  · rw [mm _ (Nat.le_refl _)]
    exact b3
theorem NdC.nm {M : MM} {ar : Nat → Nat} {d p n : Nat} {S : Nat → Nat} {t : Nat → Nat → Nat} {K os : Nat → Nat} {q : Nat} {v : Nat → Nat} (hp : WP P) (h : NdC M ar d P o p E R n S t K os q v) (hT : okT (pG P) (gTG P)) (hp0 : p < pS P) : NmA P o p q (fun k g => v (pG P * k + g)) (fun k w => avS 15 (mC E) (endS (gTG P)) (S (os k)) w) := ⟨_, LwA_E hp h.1.1 (show p < 5 by have := hp.1; omega), (h.num hT hp0).cg (fun w _ => avS_one (by have := hp.1; omega) w)⟩
end NUMC2
