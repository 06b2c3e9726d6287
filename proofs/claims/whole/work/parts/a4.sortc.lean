/-! MACHINES: sorted out at the class -/
section SORTC
variable {P : PG} {o : Nat} {E R : Nat → Nat}
theorem and0_iff {a b : Nat} : a &&& b = 0 ↔ ∀ y, (a.testBit y && b.testBit y) = false := by
  constructor
  · intro q y
    rw [← Nat.testBit_and, q, Nat.zero_testBit]
  · intro q
    refine Nat.eq_of_testBit_eq (fun y => ?_)
    rw [Nat.testBit_and, q, Nat.zero_testBit]
theorem S5_isGoodSet {M : MM} {ar : Nat → Nat} {d n : Nat} {S : Nat → Nat} {t : Nat → Nat → Nat} (h : TC M ar d P E n S t) {i : Nat} (hi : i < n) : f5_isGoodSet M 61 (nI i) = some (bI (avS 15 (mC E) (endS (gTG P)) (S i) []), M) := by
  obtain ⟨ly, h15, hr, le, hS, ht, -, h13, h14⟩ := h
  have w := ly.1.w
  have l66 : i < ln d 66 := Nat.lt_of_lt_of_le hi hr
  have lt := (hS i hi).2
  have lb := bsN_lt (endS (gTG P)) 15
  unfold f5_isGoodSet
  rw [aO_61 w, r_61_2 w, ly.oI (by decide), ly.get (by decide) l66, cI_some, (hS i hi).1, aO_61 w, h13, nI_and]
  have lz : S i &&& bsN (endS (gTG P)) 15 < 2 ^ 15 := Nat.and_lt_two_pow _ lb
  have key : (nI (S i &&& bsN (endS (gTG P)) 15) = 0) ↔ avS 15 (mC E) (endS (gTG P)) (S i) [] = false := by
    rw [show (0 : Int32) = nI 0 from rfl, nI_eq (by omega) (by omega), and0_iff]
    unfold avS
    rw [List.any_eq_false]
    constructor
    · intro q x hx
      have := q x
      rw [bsN_bit, decide_eq_true (List.mem_range.mp hx), Bool.true_and] at this
      show ¬ (_ && endS (gTG P) x) = true
      rw [this]
      decide
    · intro q y
      by_cases c : y < 15
      · have := q y (List.mem_range.mpr c)
        rw [bsN_bit, decide_eq_true c, Bool.true_and]
        exact Bool.eq_false_iff.mpr this
      · rw [bsN_bit, decide_eq_false c, Bool.false_and, Bool.and_false]
  by_cases c : avS 15 (mC E) (endS (gTG P)) (S i) [] = true
  · rw [if_neg (fun z => by rw [key.mp z] at c; cases c), c]
    rfl
  · rw [Bool.not_eq_true] at c
    rw [if_pos (key.mpr c), c]
    rfl
theorem PKC.sm {M M' : MM} {ar : Nat → Nat} {n : Nat} {K : Nat → Nat} (h : PKC M ar n K) {Is Js : List Nat} (s : Sm Is Js M M') (hi : ar (mR M 61 5) ∉ Is) : PKC M' ar n K := by
  unfold PKC at *
  rw [s.r, s.i _ hi]
  exact h
theorem L5_so2 {M0 : MM} {ar : Nat → Nat} {d n : Nat} {S : Nat → Nat} {t : Nat → Nat → Nat} (h0 : TC M0 ar d P E n S t) : ∀ (e k : Nat), k + e = n → ∀ f, e < f → ∀ M, Sm [65, ar (mR M0 61 5), ar (mR M0 61 5), ar (mR M0 61 5)] [] M0 M → (∀ i, i < k → mI M (ar (mR M0 61 5)) i = nI (if avS 15 (mC E) (endS (gTG P)) (S i) [] = true then 1 else 0)) →
    ∃ M', LP3 f5_sortOut_b2_body f M 61 (nI k) = (cI (f5_partKinds M' 61) fun r40 M40 => f5_sortOut_b46 M40 61 0 r40 0) ∧ Sm [65, ar (mR M0 61 5), ar (mR M0 61 5), ar (mR M0 61 5)] [] M0 M' ∧ ∀ i, i < n → mI M' (ar (mR M0 61 5)) i = nI (if avS 15 (mC E) (endS (gTG P)) (S i) [] = true then 1 else 0)
  | 0, k, he, f + 1, _, M, s, hK => by
    obtain ⟨k1, -, -, k4, k5, k6, -, -, -, k7, -⟩ := h0.1.k5
    obtain ⟨tc, e61⟩ := h0.sm2 s k1 k1 k1 ⟨k4, k5⟩ ⟨k4, k5⟩ ⟨k4, k5⟩
    have w := tc.1.1.w
    have le := h0.2.2.2.1
    have e : k = n := by omega
    rw [e] at hK ⊢
    refine ⟨M, ?_, s, hK⟩
    rw [LP3_s]
    generalize LP3 f5_sortOut_b2_body f = K1
    unfold f5_sortOut_b2_body
    rw [aO_61 w, tc.2.1, if_pos (nI_le (Nat.le_refl _) (by omega)), aO_61 w]
  | e + 1, k, he, f + 1, hf, M, s, hK => by
    obtain ⟨k1, -, -, k4, k5, k6, -, -, -, k7, -⟩ := h0.1.k5
    obtain ⟨tc, e61⟩ := h0.sm2 s k1 k1 k1 ⟨k4, k5⟩ ⟨k4, k5⟩ ⟨k4, k5⟩
    have ly := tc.1
    have w := ly.1.w
    have le := h0.2.2.2.1
    have hr := h0.2.2.1
    have lk : k < ln d (mR M0 61 5) := by rw [k7]; omega
    obtain ⟨M', z1, z2⟩ := L5_so2 h0 e (k + 1) (by omega) f (by omega) (uI M (ar (mR M0 61 5)) (upx (mI M (ar (mR M0 61 5))) k (nI (if avS 15 (mC E) (endS (gTG P)) (S k) [] = true then 1 else 0)))) (s.uI _ (by simp)) (fun i hi => by
      rw [mI_uI, if_pos rfl, upx_e]
      by_cases e : i = k
      · rw [if_pos e, e]
      · rw [if_neg e]
        exact hK i (by omega))
    refine ⟨M', ?_, z2⟩
    rw [← z1, LP3_s]
    generalize LP3 f5_sortOut_b2_body f = K1
    unfold f5_sortOut_b2_body f5_sortOut_b28
    have r5 : mR M 61 5 = mR M0 61 5 := by rw [s.r]
    rw [aO_61 w, tc.2.1, if_neg (nI_ge (by omega) (by omega)), aO_61 w, aO_61 w, S5_isGoodSet tc (by omega), cI_some, r5]
    cases c : avS 15 (mC E) (endS (gTG P)) (S k) [] with
    | false =>
      rw [if_pos (show bI false = 0 from rfl), ly.oI k1, ly.set k1 lk, cV_some, nI_1, if_neg (by decide)]
      rfl
    | true =>
      rw [if_neg (show ¬ bI true = 0 by decide), ly.oI k1, ly.set k1 lk, cV_some, nI_1, if_pos rfl]
      rfl
theorem L5_so46 {M0 : MM} {ar : Nat → Nat} {d n : Nat} {S : Nat → Nat} {t : Nat → Nat → Nat} (hp : WP P) (hn : n ≤ 2340) {gd : Nat → Bool} (ht : ∀ i g, i < n → g < pG P → t i g < n) : ∀ (e r : Nat), r + e = n → ∀ f, e < f → ∀ M Kp K before m, FrC M0 d M d → mI M 61 = mI M0 61 → TC M ar d P E n S t → PKC M ar n K → PtI (pG P) t Kp K n m → r ≤ before → (before = 0 ∨ before = cntB (fsB Kp) n) → (∀ i j, i < n → j < n → K i = K j → gd i = gd j) → (∀ i j, i < n → j < n → LEq (pG P) t gd i j → K i = K j) →
    ∃ M' K', LP5 f5_sortOut_b46_body f M 61 (nI before) (nI m) (nI r) = some M' ∧ FrC M0 d M' d ∧ mI M' 61 = mI M0 61 ∧ TC M' ar d P E n S t ∧ PKC M' ar n K' ∧ (∀ i, i < n → K' i < n) ∧ (∀ i j, i < n → j < n → K' i = K' j → gd i = gd j) ∧ (∀ i j, i < n → j < n → LEq (pG P) t gd i j → K' i = K' j) ∧ ∀ i j, i < n → j < n → K' i = K' j → ∀ g, g < pG P → K' (t i g) = K' (t j g)
  | e, r, he, 0, hf, _, _, _, _, _, _, _, _, _, _, _, _, _, _ => absurd hf (Nat.not_lt_zero _)
  | e, r, he, f + 1, hf, M, Kp, K, before, m, fr, e61, tc, pk, pt, rb, hb, hg, hl => by
    have w := tc.1.1.w
    have mn : m ≤ n := by rw [pt.2.2]; exact cntB_le _ _
    have bn : before ≤ n := by
      rcases hb with z | z
      · omega
      · rw [z]
        exact cntB_le _ _
    by_cases c : m ≤ before
    · have stop : ∀ i j, i < n → j < n → Kp i = Kp j → K i = K j := by
        rcases hb with z | z
        · intro i j hi
          have := pt.2.1 i hi
          omega
        · exact parts_stop (fun i j hi hj q => ((pt.1 i j hi hj).mp q).1) (by rw [← pt.2.2, ← z]; exact c)
      refine ⟨M, K, ?_, fr, e61, tc, pk, fun i hi => by have := pt.2.1 i hi; omega, hg, hl, fun i j hi hj q g hgg => stop _ _ (ht i g hi hgg) (ht j g hj hgg) (((pt.1 i j hi hj).mp q).2 g hgg)⟩
      rw [LP5_s]
      generalize LP5 f5_sortOut_b46_body f = K1
      unfold f5_sortOut_b46_body
      rw [aO_61 w, tc.2.1]
      by_cases c2 : nI n ≤ nI r
      · rw [if_pos c2]
      · rw [if_neg c2, if_pos (nI_le c (by omega))]
    · cases e with
      | zero => omega
      | succ e =>
        obtain ⟨M1, K', m', a1, a2, a3, a4, a5, a6, p1, p2, p3⟩ := S5_partKinds hp tc pk
        obtain ⟨M', K2, z1, z2⟩ := L5_so46 hp hn ht e (r + 1) (by omega) f (by omega) M1 K K' m m' (fr.trans a2) (a3.trans e61) a4 a5 ⟨p1, p2, p3⟩ (by omega) (.inr pt.2.2) (fun i j hi hj q => hg i j hi hj ((p1 i j hi hj).mp q).1) (fun i j hi hj q => (p1 i j hi hj).mpr (Rk1.of ht hl hi hj q))
        refine ⟨M', K2, ?_, z2⟩
        rw [← z1, LP5_s]
        generalize LP5 f5_sortOut_b46_body f = K1
        unfold f5_sortOut_b46_body
        rw [aO_61 w, tc.2.1, if_neg (nI_ge (by omega) (by omega)), if_neg (nI_ge (by omega) (by omega)), aO_61 w, a1, cI_some, nI_1]
def KOK (P : PG) (E : Nat → Nat) (n : Nat) (S K : Nat → Nat) : Prop := (∀ i, i < n → K i < n) ∧ ∀ i j, i < n → j < n → (K i = K j ↔ ∀ w, GW (pG P) w → avS 15 (mC E) (endS (gTG P)) (S i) w = avS 15 (mC E) (endS (gTG P)) (S j) w)
theorem TC.aw {M : MM} {ar : Nat → Nat} {d n : Nat} {S : Nat → Nat} {t : Nat → Nat → Nat} (h : TC M ar d P E n S t) (hT : okT (pG P) (gTG P)) (hE : Std P o (gTG P) E R) : ∀ w i, GW (pG P) w → i < n → acW t (fun i => avS 15 (mC E) (endS (gTG P)) (S i) []) w i = avS 15 (mC E) (endS (gTG P)) (S i) w := acW_S (fun i g hi hg => ⟨(h.2.2.2.2.2.1 i g hi hg).2.1, fun w hw => by rw [(h.2.2.2.2.2.1 i g hi hg).2.2, avS_stC (mC_all hT hE) endS_5 hw]⟩) (fun i _ => rfl)
theorem S5_sortOut {M : MM} {ar : Nat → Nat} {d n : Nat} {S : Nat → Nat} {t : Nat → Nat → Nat} (hp : WP P) (h : TC M ar d P E n S t) (hT : okT (pG P) (gTG P)) (hE : Std P o (gTG P) E R) : ∃ M' K, f5_sortOut M 61 = some M' ∧ FrC M d M' d ∧ mI M' 61 = mI M 61 ∧ TC M' ar d P E n S t ∧ PKC M' ar n K ∧ KOK P E n S K := by
  obtain ⟨k1, -, -, k4, k5, k6, -, -, -, k7, -⟩ := h.1.k5
  have le := h.2.2.2.1
  have ht : ∀ i g, i < n → g < pG P → t i g < n := fun i g hi hg => (h.2.2.2.2.2.1 i g hi hg).2.1
  obtain ⟨M1, z1, z2, z3⟩ := L5_so2 h n 0 (by omega) FU (FU_big (by omega)) M (Sm.rfl _ _ _) (fun i hi => absurd hi (Nat.not_lt_zero _))
  obtain ⟨tc1, e61⟩ := h.sm2 z2 k1 k1 k1 ⟨k4, k5⟩ ⟨k4, k5⟩ ⟨k4, k5⟩
  obtain ⟨gd, hgd⟩ : ∃ gd : Nat → Bool, gd = fun i => avS 15 (mC E) (endS (gTG P)) (S i) [] := ⟨_, rfl⟩
  have hgd' : ∀ i, avS 15 (mC E) (endS (gTG P)) (S i) [] = gd i := fun i => by rw [hgd]
  obtain ⟨K0, hK0⟩ : ∃ K0 : Nat → Nat, ∀ i, K0 i = if gd i = true then 1 else 0 := ⟨_, fun _ => rfl⟩
  have pk1 : PKC M1 ar n K0 := fun i hi => by
    rw [show mR M1 = mR M from z2.r, z3 i hi, hgd', ← hK0]
    refine ⟨rfl, ?_⟩
    rw [hK0]
    split <;> omega
  have fr1 : FrC M d M1 d := FrC.of (z2.x (fun a ha hl => by
      simp only [List.mem_cons, List.not_mem_nil, or_false] at ha
      rcases ha with e | e | e | e
      · rw [e]; decide
      · rw [e] at hl ⊢; exact h.1.1.frI k1 hl
      · rw [e] at hl ⊢; exact h.1.1.frI k1 hl
      · rw [e] at hl ⊢; exact h.1.1.frI k1 hl) (fun _ q => by cases q)) z2.z z2.n
  obtain ⟨M2, K1, m1, a1, a2, a3, a4, a5, a6, p1, p2, p3⟩ := S5_partKinds hp tc1 pk1
  have g0 : ∀ i j, K0 i = K0 j → gd i = gd j := fun i j q => by
    rw [hK0, hK0] at q
    revert q
    cases gd i <;> cases gd j <;> simp
  have l0 : ∀ i j, i < n → j < n → LEq (pG P) t gd i j → K0 i = K0 j := fun i j _ _ q => by
    have : gd i = gd j := q [] GW.nil
    rw [hK0, hK0, this]
  obtain ⟨M', K, y1, y2, y3, y4, y5, y6, y7, y8, y9⟩ := L5_so46 hp le ht (M0 := M) (gd := gd) n 0 (by omega) FU (FU_big (by omega)) M2 K0 K1 0 m1 (fr1.trans a2) (a3.trans e61) a4 a5 ⟨p1, p2, p3⟩ (Nat.le_refl _) (.inl rfl) (fun i j hi hj q => g0 i j ((p1 i j hi hj).mp q).1) (fun i j hi hj q => (p1 i j hi hj).mpr (Rk1.of ht l0 hi hj q))
  have aw := h.aw hT hE
  rw [← hgd] at aw
  refine ⟨M', K, ?_, y2, y3, y4, y5, y6, fun i j hi hj => ⟨fun q w hw => ?_, fun q => ?_⟩⟩
  · unfold f5_sortOut
    refine z1.trans ?_
    rw [a1, cI_some]
    exact y1
  · rw [← aw w i hw hi, ← aw w j hw hj]
    exact parts_eq (n := n) ht y7 y9 w i j hw hi hj q
  · exact y8 i j hi hj (fun w hw => by rw [aw w i hw hi, aw w j hw hj]; exact q w hw)
end SORTC
