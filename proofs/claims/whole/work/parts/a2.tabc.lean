/-! MACHINES: the class's table, all; kinds behind -/
def FrC (M : MM) (d : Nat) (M' : MM) (d' : Nat) : Prop := SmX IX JX M M' ∧ d ≤ d' ∧ mz M' + 10 * d = mz M + 10 * d' ∧ mn M' + 30 * RMs d = mn M + 30 * RMs d'
theorem FrC.rfl (M : MM) (d : Nat) : FrC M d M d := ⟨SmX.rfl _ _ _, Nat.le_refl _, Eq.refl _, Eq.refl _⟩
theorem FrC.trans {M M1 M2 : MM} {d d1 d2 : Nat} (a : FrC M d M1 d1) (b : FrC M1 d1 M2 d2) : FrC M d M2 d2 := ⟨a.1.trans b.1, Nat.le_trans a.2.1 b.2.1, by have := a.2.2.1; have := b.2.2.1; omega, by have := a.2.2.2; have := b.2.2.2; omega⟩
theorem FrC.of {M M' : MM} {d : Nat} (s : SmX IX JX M M') (z : mz M' = mz M) (n : mn M' = mn M) : FrC M d M' d := ⟨s, Nat.le_refl _, by rw [z], by rw [n]⟩
section TABC
variable {P : PG} {o : Nat} {E R : Nat → Nat}
def TC (M : MM) (ar : Nat → Nat) (d : Nat) (P : PG) (E : Nat → Nat) (n : Nat) (S : Nat → Nat) (t : Nat → Nat → Nat) : Prop := LY M ar d ∧ mI M 61 15 = nI n ∧ n ≤ RMs d ∧ n ≤ 2340 ∧ (∀ i, i < n → mI M (ar 66) i = nI (S i) ∧ S i < 2 ^ 15) ∧ (∀ i g, i < n → g < pG P → mI M (ar 70) (6 * i + g) = nI (t i g) ∧ t i g < n ∧ S (t i g) = stC (mC E) (S i) g) ∧ (∀ p, p < pS P → p < n ∧ S p = 2 ^ p) ∧ mI M 61 13 = nI (bsN (endS (gTG P)) 15) ∧ mI M 61 14 = nI (pG P)
theorem TC.sm {M M' : MM} {ar : Nat → Nat} {d n : Nat} {S : Nat → Nat} {t : Nat → Nat → Nat} (h : TC M ar d P E n S t) {Is Js : List Nat} (s : Sm Is Js M M') (hf : ∀ k, k = 12 ∨ k = 13 ∨ k = 14 ∨ k = 15 → mI M' 61 k = mI M 61 k) (h66 : ar 66 ∉ Is) (h70 : ar 70 ∉ Is) : TC M' ar d P E n S t := by
  obtain ⟨h1, h2, h3, h4, h5, h6, h7, h8, h9⟩ := h
  exact ⟨h1.sm s (hf 12 (.inl rfl)), (hf 15 (by omega)).trans h2, h3, h4, fun i hi => by rw [s.i _ h66]; exact h5 i hi, fun i g hi hg => by rw [s.i _ h70]; exact h6 i g hi hg, h7, (hf 13 (by omega)).trans h8, (hf 14 (by omega)).trans h9⟩
theorem S5_build {M : MM} {ar : Nat → Nat} {d a1 : Nat} (ly : LY M ar d) (hN : NtC M P o E R) (hp : WP P) (hT : okT (pG P) (gTG P)) (pg : PgC M a1 P) : ∃ M' ar' d' n S t, f5_build M 61 a1 32 = some M' ∧ FrC M d M' d' ∧ TC M' ar' d' P E n S t ∧ mI M' 61 16 = -1 := by
  have w := ly.1.w
  have hE := hN.2.2.2
  have p5 := hp.1
  obtain ⟨M1, hM1⟩ : ∃ M1, M1 = sI (sI (sI M 61 14 (nI (pG P))) 61 15 0) 61 16 (-1) := ⟨_, rfl⟩
  have s1 : Sm [61] [] M M1 := by rw [hM1, sI_e, sI_e, sI_e]; exact (((Sm.rfl _ _ M).uI _ (by decide)).uI _ (by decide)).uI _ (by decide)
  have f1 : ∀ k, k ≠ 14 → k ≠ 15 → k ≠ 16 → mI M1 61 k = mI M 61 k := fun k h1 h2 h3 => by rw [hM1, mI_sI, if_neg (fun z => h3 z.2), mI_sI, if_neg (fun z => h2 z.2), mI_sI, if_neg (fun z => h1 z.2)]
  have g14 : mI M1 61 14 = nI (pG P) := by rw [hM1, mI_sI, if_neg (by decide), mI_sI, if_neg (by decide), mI_sI, if_pos ⟨rfl, rfl⟩]
  have g15 : mI M1 61 15 = nI 0 := by rw [hM1, mI_sI, if_neg (by decide), mI_sI, if_pos ⟨rfl, rfl⟩]; rfl
  have g16 : mI M1 61 16 = -1 := by rw [hM1, mI_sI, if_pos ⟨rfl, rfl⟩]
  obtain ⟨M2, hM2⟩ : ∃ M2, M2 = sI M1 61 13 0 := ⟨_, rfl⟩
  have s2 : Sm [61] [] M1 M2 := by rw [hM2, sI_e]; exact (Sm.rfl _ _ M1).uI _ (by decide)
  have f2 : ∀ k, k ≠ 13 → mI M2 61 k = mI M1 61 k := fun k h => by rw [hM2, mI_sI, if_neg (fun z => h z.2)]
  have hN2 : NtC M2 P o E R := (hN.sm s1 (by decide)).sm s2 (by decide)
  obtain ⟨M3, z1, z2, z3, z4, z5⟩ := L5_rm7 hN2 hp ((f2 14 (by decide)).trans g14) 15 0 (by omega) FU (FU_big (by omega)) M2 (Sm.rfl _ _ _) (fun _ _ => rfl) (by rw [hM2, mI_sI, if_pos ⟨rfl, rfl⟩]; rfl) (fun x' g hx => absurd hx (Nat.not_lt_zero _))
  have w3 : Wl M3 := hN2.1.sm z2
  obtain ⟨M4, hM4⟩ : ∃ M4, M4 = uI M3 65 (fun k => if k < 256 then (-1 : Int32) else mI M3 65 k) := ⟨_, rfl⟩
  have s4 : Sm [65] [] M3 M4 := by rw [hM4]; exact (Sm.rfl _ _ M3).uI _ (by decide)
  have sA : Sm [61, 63, 65] [] M M4 := (((s1.more (by decide) (by decide)).trans (s2.more (by decide) (by decide))).trans (z2.more (by decide) (by decide))).trans (s4.more (by decide) (by decide))
  have fA : ∀ k, k ≠ 13 → mI M4 61 k = mI M1 61 k := fun k h => by rw [s4.i 61 (by decide), z3 k h, f2 k h]
  have w4 : Wl M4 := w.sm sA
  have ly4 : LY M4 ar d := ly.sm sA (by rw [fA 12 (by decide), f1 12 (by decide) (by decide) (by decide)])
  have rr := RMs_le ly.2.2
  have mv4 : MV M4 P E := z5.sm s4 (by decide)
  have h13 : mI M4 61 13 = nI (bsN (endS (gTG P)) 15) := by rw [s4.i 61 (by decide)]; exact z4
  have h14 : mI M4 61 14 = nI (pG P) := (fA 14 (by decide)).trans g14
  have h15 : mI M4 61 15 = nI 0 := (fA 15 (by decide)).trans g15
  have h16 : mI M4 61 16 = -1 := (fA 16 (by decide)).trans g16
  have frA : FrC M d M4 d := FrC.of (sA.x (fun a ha _ => by
    have : ∀ a ∈ [61, 63, 65], a ∈ IX := by decide
    exact this a ha) (fun _ q => by cases q)) sA.z sA.n
  have bc4 : BC M4 ar d P E 0 (fun _ => 0) := ⟨ly4, h15, Nat.zero_le _, fun i hi => absurd hi (Nat.not_lt_zero _), fun i j hi => absurd hi (Nat.not_lt_zero _), CHN.emp _ _ _ _ (fun c hc => by
    rw [hM4, mI_uI, if_pos rfl]
    show (if c < 256 then (-1 : Int32) else _) = _
    rw [if_pos hc])⟩
  obtain ⟨M5, ar5, d5, S5, q1, q2, q3, q4⟩ := L5_bd33 hp hT hE (pg_smX frA.1 pg (by decide)) (pS P) 0 (by omega) FU (FU_big (by omega)) M4 ar d (fun _ => 0) (FrB.rfl _ _) bc4 (fun q hq => absurd hq (Nat.not_lt_zero _))
  obtain ⟨M6, ar6, d6, n, S, r1, r2, r3, r4, r5⟩ := L5_bd57 (M0 := M4) (d0 := d) hp hT hE h14 mv4 2341 0 (by omega) FU (FU_big (by omega)) M5 ar5 d5 (pS P) S5 q2 q3 (Nat.zero_le _) (fun i' g' _ q => by omega) (fun p hpp => ⟨hpp, q4 p hpp⟩)
  have le := r3.le hT hE
  obtain ⟨t, ht'⟩ : ∃ t : Nat → Nat → Nat, ∀ i g, t i g = (mI M6 (ar6 70) (6 * i + g)).toNatClampNeg := ⟨_, fun _ _ => rfl⟩
  refine ⟨M6, ar6, d6, n, S, t, ?_, frA.trans ⟨r2.1, r2.2.2.2.2.1, r2.2.2.2.2.2.1, r2.2.2.2.2.2.2⟩, ⟨r3.1, r3.2.1, r3.2.2.1, le, fun i hi => ⟨(r3.2.2.2.1 i hi).1, (r3.2.2.2.1 i hi).2.lt⟩, fun i g hi hg => ?_, r5, (r2.2.1 13 (by decide) (by decide)).trans h13, (r2.2.1 14 (by decide) (by decide)).trans h14⟩, (r2.2.1 16 (by decide) (by decide)).trans h16⟩
  · unfold f5_build f5_readMoves
    have wa : Wl (sI M 61 14 (nI (pG P))) := w
    have wb : Wl (sI (sI M 61 14 (nI (pG P))) 61 15 0) := w
    rw [pg.oP w, aO_61 w, pg.2.2.1, bM_e, aO_61 wa, bM_e, aO_61 wb, bM_e, ← hM1]
    have w1 : Wl M1 := w.sm s1
    rw [aO_61 w1, aO_61 w1, bM_e, ← hM2]
    have z1' : f5_readMoves_b7 M2 61 32 0 = some M3 := z1
    rw [z1', cV_some, aO_61 w3, r_61_1 w3, aO_64 w3, S3_fill (i_64 w3) (by omega), cV_some, ← hM4]
    refine q1.trans r1
  · obtain ⟨k, k1, k2, k3⟩ := r4 i g hg (.inl hi)
    have : t i g = k := by rw [ht', k2, nI_clamp (by omega)]
    rw [this]
    exact ⟨k2, k1, k3⟩
/-- the kinds -/
def KO (M : MM) : Nat := mR M 61 5
theorem LY.k5 {M : MM} {ar : Nat → Nat} {d : Nat} (h : LY M ar d) : mR M 61 5 ∈ dI ∧ mR M 61 6 ∈ dI ∧ mR M 61 5 ≠ mR M 61 6 ∧ mR M 61 5 ≠ 66 ∧ mR M 61 5 ≠ 70 ∧ mR M 61 5 ≠ 68 ∧ mR M 61 6 ≠ 66 ∧ mR M 61 6 ≠ 70 ∧ mR M 61 6 ≠ 68 ∧ ln d (mR M 61 5) = RMs d ∧ ln d (mR M 61 6) = RMs d := by
  rcases h.1.sw with q | q <;> rw [q.1, q.2] <;> exact ⟨by decide, by decide, by decide, by decide, by decide, by decide, by decide, by decide, by decide, rfl, rfl⟩
def PKC (M : MM) (ar : Nat → Nat) (n : Nat) (K : Nat → Nat) : Prop := ∀ i, i < n → mI M (ar (mR M 61 5)) i = nI (K i) ∧ K i ≤ 2340
theorem S5_kindBehind {M : MM} {ar : Nat → Nat} {d n : Nat} {S K : Nat → Nat} {t : Nat → Nat → Nat} (hp : WP P) (h : TC M ar d P E n S t) (pk : PKC M ar n K) {i g : Nat} (hi : i < n) (hg : g < pG P) : f5_kindBehind M 61 (nI i) (nI g) = some (nI (K (t i g)), M) := by
  obtain ⟨ly, h15, hr, le, hS, ht, -, -, h14⟩ := h
  have w := ly.1.w
  have g6 := hp.2.1
  obtain ⟨k1, k2, k3⟩ := ht i g hi hg
  obtain ⟨o1, -, -, -, -, -, -, -, -, o2, -⟩ := ly.k5
  have l70 : 6 * i + g < ln d 70 := by
    show _ < RMs d * 6
    omega
  unfold f5_kindBehind
  rw [aO_61 w, aO_61 w, r_61_4 w, ly.oI (by decide), lit_6, nI_mulN, nI_add, Nat.mul_comm i 6, ly.get (by decide) l70, cI_some, k1, ly.oI o1, ly.get o1 (by rw [o2]; omega), cI_some, (pk _ k2).1]
theorem L5_aa23 {M : MM} {ar : Nat → Nat} {d n : Nat} {S K : Nat → Nat} {t : Nat → Nat → Nat} (hp : WP P) (h : TC M ar d P E n S t) (pk : PKC M ar n K) {a b : Nat} (ha : a < n) (hb : b < n) (hab : K a = K b) : ∀ (d j : Nat), j + d = pG P → ∀ f, d < f → (∀ g, g < j → K (t a g) = K (t b g)) → ∃ r, LP5 f5_areAlike_b23_body f M 61 (nI a) (nI b) (nI j) = some (bI r, M) ∧ (r = true ↔ Rk1 (pG P) t K a b)
  | 0, j, hj, f + 1, _, hg => by
    have w := h.1.1.w
    have g6 := hp.2.1
    have h14 := h.2.2.2.2.2.2.2.2
    refine ⟨true, ?_, fun _ => ⟨hab, fun g h => hg g (by omega)⟩, fun _ => rfl⟩
    rw [LP5_s]
    generalize LP5 f5_areAlike_b23_body f = K1
    unfold f5_areAlike_b23_body
    rw [aO_61 w, h14, if_pos (nI_le (by omega) (by omega))]
    rfl
  | d + 1, j, hj, f + 1, hf, hg => by
    have w := h.1.1.w
    have g6 := hp.2.1
    have h14 := h.2.2.2.2.2.2.2.2
    have pa := pk _ (h.2.2.2.2.2.1 a j ha (by omega)).2.1
    have pb := pk _ (h.2.2.2.2.2.1 b j hb (by omega)).2.1
    have head : LP5 f5_areAlike_b23_body (f + 1) M 61 (nI a) (nI b) (nI j) = if K (t a j) = K (t b j) then LP5 f5_areAlike_b23_body f M 61 (nI a) (nI b) (nI (j + 1)) else some (0, M) := by
      rw [LP5_s]
      generalize LP5 f5_areAlike_b23_body f = K1
      unfold f5_areAlike_b23_body
      rw [aO_61 w, h14, if_neg (nI_ge (by omega) (by omega)), aO_61 w, S5_kindBehind hp h pk ha (by omega), cI_some, aO_61 w, S5_kindBehind hp h pk hb (by omega), cI_some, nI_1]
      simp only [c_eq (show K (t a j) < 2 ^ 31 by omega) (show K (t b j) < 2 ^ 31 by omega)]
    rw [head]
    by_cases c : K (t a j) = K (t b j)
    · rw [if_pos c]
      exact L5_aa23 hp h pk ha hb hab d (j + 1) (by omega) f (by omega) (fun g h => by
        by_cases e : g = j
        · rw [e]
          exact c
        · exact hg g (by omega))
    · rw [if_neg c]
      exact ⟨false, rfl, (fun q => by cases q), fun q => absurd (q.2 j (by omega)) c⟩
theorem S5_areAlike {M : MM} {ar : Nat → Nat} {d n : Nat} {S K : Nat → Nat} {t : Nat → Nat → Nat} (hp : WP P) (h : TC M ar d P E n S t) (pk : PKC M ar n K) {a b : Nat} (ha : a < n) (hb : b < n) : ∃ r, f5_areAlike M 61 (nI a) (nI b) = some (bI r, M) ∧ (r = true ↔ Rk1 (pG P) t K a b) := by
  have ly := h.1
  have w := ly.1.w
  have hr := h.2.2.1
  have pa := pk _ ha
  have pb := pk _ hb
  obtain ⟨o1, -, -, -, -, -, -, -, -, o2, -⟩ := ly.k5
  have head : f5_areAlike M 61 (nI a) (nI b) = if K a = K b then f5_areAlike_b23 M 61 (nI a) (nI b) 0 else some (0, M) := by
    unfold f5_areAlike
    rw [aO_61 w, ly.oI o1, ly.get o1 (by rw [o2]; omega), cI_some, aO_61 w, ly.oI o1, ly.get o1 (by rw [o2]; omega), cI_some, pa.1, pb.1]
    simp only [c_eq (show K a < 2 ^ 31 by omega) (show K b < 2 ^ 31 by omega)]
  rw [head]
  by_cases c : K a = K b
  · rw [if_pos c]
    exact L5_aa23 hp h pk ha hb c (pG P) 0 (by omega) FU (FU_big (by have := hp.2.1; omega)) (fun g h => absurd h (Nat.not_lt_zero _))
  · rw [if_neg c]
    exact ⟨false, rfl, (fun q => by cases q), fun q => absurd q.1 c⟩
def mxF (f : Nat → Int32) (x : Int32) : Nat → Int32
  | 0 => x
  | g + 1 => mxF f x g * 31 + f g
theorem mxF_cg {f f' : Nat → Int32} {x : Int32} : ∀ G, (∀ g, g < G → f g = f' g) → mxF f x G = mxF f' x G
  | 0, _ => rfl
  | g + 1, h => by
    show mxF f x g * 31 + f g = mxF f' x g * 31 + f' g
    rw [mxF_cg g (fun i hi => h i (by omega)), h g (by omega)]
def mixN (G : Nat) (t : Nat → Nat → Nat) (K : Nat → Nat) (i : Nat) : Int32 := mxF (fun g => nI (K (t i g))) (nI (K i)) G
theorem L5_mx11 {M : MM} {ar : Nat → Nat} {d n : Nat} {S K : Nat → Nat} {t : Nat → Nat → Nat} (hp : WP P) (h : TC M ar d P E n S t) (pk : PKC M ar n K) {i : Nat} (hi : i < n) : ∀ (d j : Nat), j + d = pG P → ∀ f, d < f → LP5 f5_mixOf_b11_body f M 61 (nI i) (mxF (fun g => nI (K (t i g))) (nI (K i)) j) (nI j) = some (mixN (pG P) t K i, M)
  | 0, j, hj, f + 1, _ => by
    have w := h.1.1.w
    have g6 := hp.2.1
    have h14 := h.2.2.2.2.2.2.2.2
    have e : j = pG P := by omega
    rw [e, LP5_s]
    generalize LP5 f5_mixOf_b11_body f = K1
    unfold f5_mixOf_b11_body
    rw [aO_61 w, h14, if_pos (nI_le (by omega) (by omega))]
    rfl
  | d + 1, j, hj, f + 1, hf => by
    have w := h.1.1.w
    have g6 := hp.2.1
    have h14 := h.2.2.2.2.2.2.2.2
    have ih := L5_mx11 hp h pk hi d (j + 1) (by omega) f (by omega)
    rw [← ih, LP5_s]
    generalize LP5 f5_mixOf_b11_body f = K1
    unfold f5_mixOf_b11_body
    rw [aO_61 w, h14, if_neg (nI_ge (by omega) (by omega)), aO_61 w, S5_kindBehind hp h pk hi (by omega), cI_some, bW_e, nI_1]
    rfl
theorem S5_mixOf {M : MM} {ar : Nat → Nat} {d n : Nat} {S K : Nat → Nat} {t : Nat → Nat → Nat} (hp : WP P) (h : TC M ar d P E n S t) (pk : PKC M ar n K) {i : Nat} (hi : i < n) : f5_mixOf M 61 (nI i) = some (mixN (pG P) t K i, M) := by
  have ly := h.1
  have w := ly.1.w
  have hr := h.2.2.1
  obtain ⟨o1, -, -, -, -, -, -, -, -, o2, -⟩ := ly.k5
  unfold f5_mixOf
  rw [aO_61 w, ly.oI o1, ly.get o1 (by rw [o2]; omega), cI_some, (pk i hi).1]
  exact L5_mx11 hp h pk hi (pG P) 0 (by omega) FU (FU_big (by have := hp.2.1; omega))
theorem mixN_Rk {G : Nat} {t : Nat → Nat → Nat} {K : Nat → Nat} {i j : Nat} (h : Rk1 G t K i j) : mixN G t K i = mixN G t K j := by
  unfold mixN
  rw [h.1]
  exact mxF_cg G (fun g hg => by rw [h.2 g hg])
end TABC
