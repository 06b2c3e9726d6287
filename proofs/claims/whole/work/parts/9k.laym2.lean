/-! MACHINES: all of it laid, at the reference -/
section LAYM2
variable {P : PG} {o : Nat}
theorem LM_bl111 {F : Nat → Nat} {M0 : MM} (h0 : NtM M0 P o F) {n : Nat} {S : Nat → Nat} (hn : n ≤ 7203) (h47 : mI M0 86 47 = nI n) (hS : ∀ i, i < n → mI M0 111 i = nI (S i) ∧ S i < 2 ^ 21) : ∀ (d i : Nat), i + d = n → ∀ f, d < f → ∀ M, Sm [113] [] M0 M → (∀ j, j < i → mI M 113 j = nI (if avS 21 (mM (gTG P) F) (isE (gTG P)) (S j) [] = true then 1 else 0)) →
    ∃ M', LP3 f12_layMachines_b111_body f M 86 (nI i) = f12_layMachines_b151 M' 86 1 ∧ Sm [113] [] M0 M' ∧ ∀ j, j < n → mI M' 113 j = nI (if avS 21 (mM (gTG P) F) (isE (gTG P)) (S j) [] = true then 1 else 0)
  | 0, i, hi, f + 1, _, M, s, h => by
    have w := h0.1.sm s
    have e : i = n := by omega
    rw [e] at h ⊢
    refine ⟨M, ?_, s, h⟩
    rw [LP3_s]
    generalize LP3 f12_layMachines_b111_body f = K
    unfold f12_layMachines_b111_body
    rw [aO_86 w, s.i 86 (by decide), h47, if_pos (nI_le (Nat.le_refl _) (by omega))]
  | d + 1, i, hi, f + 1, hf, M, s, h => by
    have hN : NtM M P o F := h0.sm s (by rw [s.i 86 (by decide)]) (by rw [s.i 86 (by decide)]) (by decide) (by decide)
    have w := hN.1
    obtain ⟨q1, q2⟩ := hS i (by omega)
    obtain ⟨M', k1, k2⟩ := LM_bl111 h0 hn h47 hS d (i + 1) (by omega) f (by omega) (uI M 113 (upx (mI M 113) i (nI (if avS 21 (mM (gTG P) F) (isE (gTG P)) (S i) [] = true then 1 else 0)))) (s.uI _ (by decide)) (fun j hj => by
      rw [mI_uI, if_pos rfl, upx_e]
      by_cases e : j = i
      · rw [if_pos e, e]
      · rw [if_neg e, h j (by omega)])
    refine ⟨M', ?_, k2⟩
    rw [← k1, LP3_s]
    generalize LP3 f12_layMachines_b111_body f = K
    unfold f12_layMachines_b111_body f12_layMachines_b142
    rw [aO_86 w, s.i 86 (by decide), h47, if_neg (nI_ge (by omega) (by omega)), aO_86 w, aO_86 w, r_86_43 w, aA_111 w (by omega), aO_86 w, nI_clamp (by omega), s.i 111 (by decide), q1, SM_isGoodSet hN q2, cI_some, r_86_45 w, aA_113 w (by omega), bM_e, sI_e, aA_113 w (by omega), bM_e, sI_e, nI_1]
    simp only [bI_0]
    by_cases c : avS 21 (mM (gTG P) F) (isE (gTG P)) (S i) [] = true
    · rw [if_neg (by rw [c]; decide), if_pos c]
      rfl
    · rw [if_neg c]
      rw [Bool.not_eq_true] at c
      rw [if_pos c]
      rfl
/-- what the reference's table tells -/
def MaI (M : MM) (P : PG) (o : Nat) : Prop := ∃ F n S t K m, Net P o (gTG P) F ∧ BM M P F n S ∧ MT M P n t ∧ (∀ p, p < pS P → p < n ∧ S p = 2 ^ p) ∧ (∀ i g, i < n → g < pG P → S (t i g) = stp 21 (mM (gTG P) F) (S i) g) ∧ PK M 113 n K ∧ mI M 86 48 = nI m ∧ m ≤ n ∧ (∀ i, i < n → K i < m) ∧ ∀ i j, i < n → j < n → (K i = K j ↔ ∀ w, GW (pG P) w → avS 21 (mM (gTG P) F) (isE (gTG P)) (S i) w = avS 21 (mM (gTG P) F) (isE (gTG P)) (S j) w)
def MaM (M : MM) (P : PG) (o : Nat) : Prop := mI M 86 49 = 0 ∨ (mI M 86 49 = 1 ∧ MaI M P o)
theorem BM.sm {M M' : MM} {F : Nat → Nat} {n : Nat} {S : Nat → Nat} (h : BM M P F n S) {Is Js : List Nat} (s : Sm Is Js M M') (h47 : mI M' 86 47 = mI M 86 47) (hi : 111 ∉ Is) : BM M' P F n S := by
  unfold BM at *
  rw [h47, s.i 111 hi]
  exact h
theorem MaI.sm {M M' : MM} (h : MaI M P o) {Is Js : List Nat} (s : Sm Is Js M M') (h47 : mI M' 86 47 = mI M 86 47) (h48 : mI M' 86 48 = mI M 86 48) (hi : avd [111, 112, 113] Is = true) : MaI M' P o := by
  obtain ⟨F, n, S, t, K, m, a1, a2, a3, a4, a5, a6, a7, a8⟩ := h
  exact ⟨F, n, S, t, K, m, a1, a2.sm s h47 (avd_n hi (by decide)), a3.sm s h47 (avd_n hi (by decide)), a4, a5, a6.sm s (avd_n hi (by decide)), h48.trans a7, a8⟩
theorem MaM.sm {M M' : MM} (h : MaM M P o) {Is Js : List Nat} (s : Sm Is Js M M') (h47 : mI M' 86 47 = mI M 86 47) (h48 : mI M' 86 48 = mI M 86 48) (h49 : mI M' 86 49 = mI M 86 49) (hi : avd [111, 112, 113] Is = true) : MaM M' P o := by
  rcases h with q | ⟨q, r⟩
  · exact .inl (h49.trans q)
  · exact .inr ⟨h49.trans q, r.sm s h47 h48 hi⟩
theorem SM_layMachines {M : MM} {nw : NW} (h : CoM M P o nw) (ht : ToldOK M P o) (hm : MaM M P o) : ∃ M', f12_layMachines M 86 = some M' ∧ Sm [86, 95, 96, 97, 98, 111, 112, 113, 114] [99] M M' ∧ (∀ x, x ≠ 30 → x ≠ 31 → x ≠ 47 → x ≠ 48 → x ≠ 49 → mI M' 86 x = mI M 86 x) ∧ CoM M' P o nw ∧ ToldOK M' P o ∧ mI M' 86 49 = 1 ∧ (∃ F', NtM M' P o F') ∧ MaI M' P o := by
  have w := h.w
  have hp := h.p
  have p5 := hp.1
  obtain ⟨M1, F, gg, b1, b2, b3, b4, b5, b6, b7, b8, b9⟩ := SM_told2 h ht
  have w1 := b8.w
  have m49 : mI M1 86 49 = mI M 86 49 := b3 49 (by decide) (by decide)
  unfold f12_layMachines
  rw [aO_86 w, b1, cV_some, aO_86 w1, m49]
  rcases hm with z | ⟨z, hm⟩
  · rw [z, if_pos rfl]
    have wa : Wl (sI M1 86 49 1) := w1
    obtain ⟨M2, hM2⟩ : ∃ M2, M2 = sI (sI M1 86 49 1) 86 47 0 := ⟨_, rfl⟩
    have s2 : Sm [86] [] M1 M2 := by rw [hM2, sI_e, sI_e]; exact ((Sm.rfl _ _ M1).uI _ (by decide)).uI _ (by decide)
    have f2 : ∀ x, x ≠ 47 → x ≠ 49 → mI M2 86 x = mI M1 86 x := fun x h1 h2 => by rw [hM2, mI_sI, if_neg (fun z => h1 z.2), mI_sI, if_neg (fun z => h2 z.2)]
    have h0 : NtM M2 P o F := NtM.sm ⟨w1, b8.pg, b4, ⟨gg, b6⟩, b7⟩ s2 (f2 30 (by decide) (by decide)) (f2 5 (by decide) (by decide)) (by decide) (by decide)
    obtain ⟨M3, S3, c1, c2, c3, c4, c5⟩ := LM_bl24 h0 hp (pS P) 0 (by omega) FU (FU_big (by omega)) M2 (fun _ => 0) (Sm.rfl _ _ _) (fun _ _ => rfl) ⟨by rw [hM2, mI_sI, if_pos ⟨rfl, rfl⟩]; rfl, fun i hi => absurd hi (Nat.not_lt_zero _), fun i j hi => absurd hi (Nat.not_lt_zero _)⟩ (fun q hq => absurd hq (Nat.not_lt_zero _))
    obtain ⟨M4, n, S, d1, d2, d3, d4, d5⟩ := LM_bl48 h0 hp 7204 0 (by omega) FU (FU_big (by omega)) M3 (pS P) S3 c2 c3 c4 (Nat.zero_le _) ⟨fun p hpp => ⟨hpp, c5 p hpp⟩, fun i' g' _ q => by omega⟩
    have le := d4.le hp b7
    obtain ⟨M5, hM5⟩ : ∃ M5, M5 = sI M4 86 48 0 := ⟨_, rfl⟩
    have s5 : Sm [86, 111, 112] [] M2 M5 := by rw [hM5, sI_e]; exact d2.uI _ (by decide)
    have f5 : ∀ x, x ≠ 47 → x ≠ 48 → mI M5 86 x = mI M2 86 x := fun x h1 h2 => by
      rw [hM5, mI_sI, if_neg (fun z => h2 z.2)]
      exact d3 x h1
    have h5 : NtM M5 P o F := h0.sm s5 (f5 30 (by decide) (by decide)) (f5 5 (by decide) (by decide)) (by decide) (by decide)
    have e111 : mI M5 111 = mI M4 111 := by rw [hM5, sI_e, mI_uI, if_neg (by decide)]
    have e112 : mI M5 112 = mI M4 112 := by rw [hM5, sI_e, mI_uI, if_neg (by decide)]
    have r47 : mI M5 86 47 = nI n := by rw [hM5, mI_sI, if_neg (by decide)]; exact d4.1
    have r48 : mI M5 86 48 = nI 0 := by rw [hM5, mI_sI, if_pos ⟨rfl, rfl⟩]; rfl
    obtain ⟨M6, e1, e2, e3⟩ := LM_bl111 h5 le r47 (S := S) (fun i hi => by rw [e111]; exact ⟨(d4.2.1 i hi).1, ((d4.2.1 i hi).2.v hp b7).1⟩) n 0 (by omega) FU (FU_big (by omega)) M5 (Sm.rfl _ _ _) (fun j hj => absurd hj (Nat.not_lt_zero _))
    have h6 : NtM M6 P o F := h5.sm e2 (by rw [e2.i 86 (by decide)]) (by rw [e2.i 86 (by decide)]) (by decide) (by decide)
    obtain ⟨t, ht'⟩ : ∃ t : Nat → Nat → Nat, ∀ i g, t i g = (mI M4 112 (6 * i + g)).toNatClampNeg := ⟨_, fun _ _ => rfl⟩
    have tt : ∀ i g, i < n → g < pG P → mI M4 112 (6 * i + g) = nI (t i g) ∧ t i g < n ∧ S (t i g) = stp 21 (mM (gTG P) F) (S i) g := fun i g hi hg => by
      obtain ⟨k, k1, k2, k3⟩ := d5.2 i g hg (.inl hi)
      have : t i g = k := by rw [ht', k2, nI_clamp (by omega)]
      rw [this]
      exact ⟨k2, k1, k3⟩
    have mt6 : MT M6 P n t := ⟨by rw [e2.i 86 (by decide)]; exact r47, le, fun i g hi hg => by rw [e2.i 112 (by decide), e112]; exact ⟨(tt i g hi hg).1, (tt i g hi hg).2.1⟩⟩
    obtain ⟨gd, hgd⟩ : ∃ gd : Nat → Bool, ∀ i, gd i = avS 21 (mM (gTG P) F) (isE (gTG P)) (S i) [] := ⟨_, fun _ => rfl⟩
    have aw : ∀ w i, GW (pG P) w → i < n → acW t gd w i = avS 21 (mM (gTG P) F) (isE (gTG P)) (S i) w := acW_S (fun i g hi hg => ⟨(tt i g hi hg).2.1, fun w _ => by rw [(tt i g hi hg).2.2, avS_stp]⟩) (fun i _ => hgd i)
    obtain ⟨f, hf⟩ : ∃ f, FU = f + 1 := ⟨FU - 1, by have : (8 : Nat) < FU := FU_big (by omega); omega⟩
    obtain ⟨M7, K, m, g1, g2, g3, g4, g5, g6, g7, g8, g9, g10⟩ := LM_lm151 h6.1 h6.2.1 hp mt6 (gd := gd) (n + 1) 0 (by omega) f (by have : (n + 2 : Nat) < FU := FU_big (by omega); omega) M6 (fun i => if gd i = true then 1 else 0) (Sm.rfl _ _ _) (fun _ _ => rfl) (by rw [e2.i 86 (by decide)]; exact r48) (fun i hi => by
        have := e3 i hi
        rw [← hgd] at this
        refine ⟨this, ?_⟩
        show (if gd i = true then 1 else 0) ≤ 7203
        split <;> omega) (.inl rfl) (fun i j _ _ q => by
        have q' : (if gd i = true then 1 else 0) = (if gd j = true then 1 else 0) := q
        revert q'
        cases gd i <;> cases gd j <;> simp) (fun i j hi hj q => by
        show (if gd i = true then 1 else 0) = (if gd j = true then 1 else 0)
        have : gd i = gd j := q [] GW.nil
        rw [this])
    have s7 : Sm [86, 111, 112, 113, 114] [] M2 M7 := ((s5.more (by decide) (by decide)).trans (e2.more (by decide) (by decide))).trans (g2.more (by decide) (by decide))
    have f7 : ∀ x, x ≠ 47 → x ≠ 48 → mI M7 86 x = mI M2 86 x := fun x h1 h2 => by
      rw [g3 x h2, e2.i 86 (by decide)]
      exact f5 x h1 h2
    have sA : Sm [86, 111, 112, 113, 114] [] M1 M7 := (s2.more (by decide) (by decide)).trans s7
    have fA : ∀ x, x ≠ 47 → x ≠ 48 → x ≠ 49 → mI M7 86 x = mI M1 86 x := fun x h1 h2 h3 => (f7 x h1 h2).trans (f2 x h1 h3)
    have i111 : mI M7 111 = mI M4 111 := by rw [g2.i 111 (by decide), e2.i 111 (by decide), e111]
    have r7 : mI M7 86 47 = nI n := by rw [g3 47 (by decide), e2.i 86 (by decide)]; exact r47
    refine ⟨M7, ?_, (b2.more (by decide) (by decide)).trans (sA.more (by decide) (by decide)), fun x h1 h2 h3 h4 h5 => (fA x h3 h4 h5).trans (b3 x h1 h2), ?_, ?_, ?_, ⟨F, h6.sm g2 (g3 30 (by decide)) (g3 5 (by decide)) (by decide) (by decide)⟩, F, n, S, t, K, m, b7, ⟨r7, fun i hi => by rw [i111]; exact d4.2.1 i hi, d4.2.2⟩, mt6.sm g2 (g3 47 (by decide)) (by decide), d5.1, fun i g hi hg => (tt i g hi hg).2.2, g6, g4, g5, g7, fun i j hi hj => ⟨fun q w hw => ?_, fun q => ?_⟩⟩
    · rw [aO_86 w1, bM_e, aO_86 wa, bM_e, ← hM2]
      refine c1.trans (d1.trans ?_)
      rw [← hM5]
      refine e1.trans ?_
      rw [← g1, ← hf]
      rfl
    · exact b8.sm sA (fA 5 (by decide) (by decide) (by decide)) (fun j h1 h2 => fA j (by omega) (by omega) (by omega)) (by unfold SzM; rw [sA.i 96 (by decide)]; exact b8.sz) (by decide)
    · unfold ToldOK at *
      rw [fA 31 (by decide) (by decide) (by decide), sA.j 99 (by decide)]
      exact b9
    · rw [f7 49 (by decide) (by decide), hM2, mI_sI, if_neg (by decide), mI_sI, if_pos ⟨rfl, rfl⟩]
    · rw [← aw w i hw hi, ← aw w j hw hj]
      exact parts_eq (n := n) (fun i g hi hg => (tt i g hi hg).2.1) g8 g10 w i j hw hi hj q
    · exact g9 i j hi hj (fun w hw => by rw [aw w i hw hi, aw w j hw hj]; exact q w hw)
  · rw [z, if_neg (by decide)]
    exact ⟨M1, rfl, b2.more (by decide) (by decide), fun x h1 h2 _ _ _ => b3 x h1 h2, b8, b9, by rw [m49]; exact z, ⟨F, w1, b8.pg, b4, ⟨gg, b6⟩, b7⟩, hm.sm b2 (b3 47 (by decide) (by decide)) (b3 48 (by decide) (by decide)) (by decide)⟩
end LAYM2
