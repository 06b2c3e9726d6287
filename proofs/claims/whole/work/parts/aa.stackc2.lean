/-! MACHINES: stacks at the class, all -/
section STACKC2
variable {P : PG} {o : Nat} {E R : Nat → Nat} {nw : NW}
theorem L5_cw55 {M : MM} {ar : Nat → Nat} {d p n : Nat} {S : Nat → Nat} {t : Nat → Nat → Nat} {K os : Nat → Nat} {q : Nat} {v : Nat → Nat} (nd : NdC M ar d P o p E R n S t K os q v) {f : Nat → Nat} (hw : ∀ x, x < q → mJ M (ar 82) x = lN (f x)) : ∀ (e k : Nat), k + e = q → ∀ fu, e < fu → LP4 f5_countWords_b55_body fu M 61 (lN (sumN (fun k => if avS 15 (mC E) (endS (gTG P)) (S (os k)) [] = true then f k else 0) k)) (nI k) = some (lN (sumN (fun k => if avS 15 (mC E) (endS (gTG P)) (S (os k)) [] = true then f k else 0) q), M)
  | 0, k, hk, fu + 1, _ => by
    obtain ⟨qn, q0, le⟩ := nd.row
    have w := nd.1.2.1.1.1.w
    have e : k = q := by omega
    rw [e, LP4_s]
    generalize LP4 f5_countWords_b55_body fu = K1
    unfold f5_countWords_b55_body
    rw [aO_61 w, nd.2.2.1.1, if_pos (nI_le (Nat.le_refl _) (by omega))]
  | e + 1, k, hk, fu + 1, hf => by
    obtain ⟨qn, q0, le⟩ := nd.row
    have ly := nd.1.2.1.1
    have w := ly.1.w
    have hr := nd.1.2.1.2.2.1
    have l82 : k < ln d 82 := Nat.lt_of_lt_of_le (show k < n by omega) hr
    have ih := L5_cw55 nd hw e (k + 1) (by omega) fu (by omega)
    rw [← ih, LP4_s]
    generalize LP4 f5_countWords_b55_body fu = K1
    unfold f5_countWords_b55_body f5_countWords_b85
    rw [aO_61 w, nd.2.2.1.1, if_neg (nI_ge (by omega) (by omega)), aO_61 w, S5_isGoodNode nd (by omega), cI_some]
    have st : sumN (fun k => if avS 15 (mC E) (endS (gTG P)) (S (os k)) [] = true then f k else 0) (k + 1) = sumN (fun k => if avS 15 (mC E) (endS (gTG P)) (S (os k)) [] = true then f k else 0) k + (if avS 15 (mC E) (endS (gTG P)) (S (os k)) [] = true then f k else 0) := rfl
    rw [st]
    by_cases c : avS 15 (mC E) (endS (gTG P)) (S (os k)) [] = true
    · rw [c, if_neg (show ¬ bI true = 0 by decide), if_pos rfl, aO_61 w, r_61_10 w, ly.oL (by decide), ly.getJ (by decide) l82, cJ_some, bW_e, hw k (by omega), lN_add, nI_1]
    · rw [Bool.not_eq_true] at c
      rw [c, if_pos (show bI false = 0 from rfl), if_neg (by decide), Nat.add_zero, nI_1]
theorem L5_cw35 {M0 : MM} {ar : Nat → Nat} {d p n : Nat} {S : Nat → Nat} {t : Nat → Nat → Nat} {K os : Nat → Nat} {q : Nat} {v : Nat → Nat} (hp : WP P) (h0 : NdC M0 ar d P o p E R n S t K os q v) {len : Nat} (hl : len < 2 ^ 30) : ∀ (e i : Nat), i + e = len → ∀ fu, e < fu → ∀ M, Sm [] (jL ar) M0 M → (∀ x, x < q → mJ M (ar 82) x = lN (fwN (pG P) q (fun k g => v (pG P * k + g)) i x)) → ∃ M', LP4 f5_countWords_b35_body fu M 61 (nI len) (nI i) = some (lN (sumN (fun k => if avS 15 (mC E) (endS (gTG P)) (S (os k)) [] = true then fwN (pG P) q (fun k g => v (pG P * k + g)) len k else 0) q), M') ∧ Sm [] (jL ar) M0 M'
  | 0, i, hi, fu + 1, _, M, s, hw => by
    have nd := h0.j s
    have e : i = len := by omega
    rw [e] at hw ⊢
    refine ⟨M, ?_, s⟩
    obtain ⟨qn, q0, le⟩ := nd.row
    have := L5_cw55 nd hw q 0 (by omega) FU (FU_big (by omega))
    rw [← this, LP4_s]
    generalize LP4 f5_countWords_b35_body fu = K1
    unfold f5_countWords_b35_body
    rw [if_pos (nI_le (Nat.le_refl _) (by omega))]
    rfl
  | e + 1, i, hi, fu + 1, hf, M, s, hw => by
    have nd := h0.j s
    have w := nd.1.2.1.1.1.w
    obtain ⟨M1, a1, a2, a3⟩ := S5_lengthenWords hp h0 s hw
    obtain ⟨M', k1, k2⟩ := L5_cw35 hp h0 hl e (i + 1) (by omega) fu (by omega) M1 a2 a3
    refine ⟨M', ?_, k2⟩
    rw [← k1, LP4_s]
    generalize LP4 f5_countWords_b35_body fu = K1
    unfold f5_countWords_b35_body
    rw [if_neg (nI_ge (by omega) (by omega)), aO_61 w, a1, cV_some, nI_1]
theorem L5_cw2 {M0 : MM} {ar : Nat → Nat} {d p n : Nat} {S : Nat → Nat} {t : Nat → Nat → Nat} {K os : Nat → Nat} {q : Nat} {v : Nat → Nat} (h0 : NdC M0 ar d P o p E R n S t K os q v) (y : Int32) : ∀ (e k : Nat), k + e = q → ∀ fu, e < fu → ∀ M, Sm [] (jL ar) M0 M → (∀ x, x < k → mJ M (ar 82) x = lN (if x = 0 then 1 else 0)) →
    ∃ M', LP4 f5_countWords_b2_body fu M 61 y (nI k) = f5_countWords_b35 M' 61 y 0 ∧ Sm [] (jL ar) M0 M' ∧ ∀ x, x < q → mJ M' (ar 82) x = lN (if x = 0 then 1 else 0)
  | 0, k, hj, fu + 1, _, M, s, hl => by
    have nd := h0.j s
    obtain ⟨qn, q0, le⟩ := nd.row
    have w := nd.1.2.1.1.1.w
    have e : k = q := by omega
    rw [e] at hl ⊢
    refine ⟨M, ?_, s, hl⟩
    rw [LP4_s]
    generalize LP4 f5_countWords_b2_body fu = K1
    unfold f5_countWords_b2_body
    rw [aO_61 w, nd.2.2.1.1, if_pos (nI_le (Nat.le_refl _) (by omega))]
  | e + 1, k, hj, fu + 1, hf, M, s, hl => by
    have nd := h0.j s
    obtain ⟨qn, q0, le⟩ := nd.row
    have ly := nd.1.2.1.1
    have w := ly.1.w
    have hr := nd.1.2.1.2.2.1
    have l82 : k < ln d 82 := Nat.lt_of_lt_of_le (show k < n by omega) hr
    obtain ⟨M1, hM1⟩ : ∃ M1, M1 = uJ M (ar 82) (upx (mJ M (ar 82)) k (lN (if k = 0 then 1 else 0))) := ⟨_, rfl⟩
    obtain ⟨M', k1, k2⟩ := L5_cw2 h0 y e (k + 1) (by omega) fu (by omega) M1 (by rw [hM1]; exact s.uJ _ (by simp [jL])) (fun x hx => by
      rw [hM1, mJ_uJ, if_pos rfl, upx_e]
      by_cases c : x = k
      · rw [if_pos c, c]
      · rw [if_neg c]
        exact hl x (by omega))
    refine ⟨M', ?_, k2⟩
    rw [← k1, LP4_s]
    generalize LP4 f5_countWords_b2_body fu = K1
    unfold f5_countWords_b2_body f5_countWords_b24
    rw [aO_61 w, nd.2.2.1.1, if_neg (nI_ge (by omega) (by omega)), aO_61 w, r_61_10 w]
    simp only [c_eq0 (show k < 2 ^ 31 by omega)]
    by_cases c : k = 0
    · rw [if_pos c] at hM1 ⊢
      rw [ly.oL (by decide), ly.setJ (by decide) l82, cV_some, nI_1]
      show K1 (uJ M (ar 82) (upx (mJ M (ar 82)) k (lN 1))) _ _ _ = _
      rw [← hM1]
    · rw [if_neg c] at hM1 ⊢
      rw [ly.oL (by decide), ly.setJ (by decide) l82, cV_some, nI_1]
      show K1 (uJ M (ar 82) (upx (mJ M (ar 82)) k (lN 0))) _ _ _ = _
      rw [← hM1]
theorem NdC.ltv {M : MM} {ar : Nat → Nat} {d p n : Nat} {S : Nat → Nat} {t : Nat → Nat → Nat} {K os : Nat → Nat} {q : Nat} {v : Nat → Nat} (hp : WP P) (nd : NdC M ar d P o p E R n S t K os q v) : ∀ k g, k < q → g < pG P → (fun k g => v (pG P * k + g)) k g < q := fun _ _ hk hg => (S5_nodeBehind hp nd hk hg).2
theorem S5_countWords {M : MM} {ar : Nat → Nat} {d p n : Nat} {S : Nat → Nat} {t : Nat → Nat → Nat} {K os : Nat → Nat} {q : Nat} {v : Nat → Nat} (hp : WP P) (nd : NdC M ar d P o p E R n S t K os q v) {i : Nat} (hi : i < 2 ^ 30) : ∃ M', f5_countWords M 61 (nI i) = some (lN (cwN (pG P) (fun k g => v (pG P * k + g)) (fun k => avS 15 (mC E) (endS (gTG P)) (S (os k)) []) i 0), M') ∧ Sm [] (jL ar) M M' := by
  obtain ⟨qn, q0, le⟩ := nd.row
  obtain ⟨M1, a1, a2, a3⟩ := L5_cw2 nd (nI i) q 0 (by omega) FU (FU_big (by omega)) M (Sm.rfl _ _ _) (fun x hx => absurd hx (Nat.not_lt_zero _))
  obtain ⟨M2, b1, b2⟩ := L5_cw35 hp nd hi i 0 (by omega) FU (FU_big (by omega)) M1 a2 (fun x hx => by rw [a3 x hx]; rfl)
  refine ⟨M2, ?_, b2⟩
  rw [← fw_good (nd.ltv hp) q0 i]
  exact a1.trans b1
theorem McR.jrow {M M1 M2 : MM} {d : Nat} {ar' : Nat → Nat} {d' : Nat} (fr : FrM M d M1 d') (h : CoC M1 P o nw) (hc : CostC M1 P o) (hm : MacC M1 P o ar' d') (s : Sm [] (jL ar') M1 M2) : McR M d P o nw M2 := by
  have ly := hm.1
  have e : ∀ a, mI M2 a = mI M1 a := fun a => s.i a (fun z => by cases z)
  have sx : SmX (1 :: IX) (34 :: 36 :: JX) M1 M2 := s.x (fun _ q => by cases q) (fun a ha hl => by
    unfold jL at ha
    simp only [List.mem_cons, List.not_mem_nil, or_false] at ha
    rcases ha with z | z
    · rw [z] at hl ⊢; exact List.mem_cons_of_mem _ (List.mem_cons_of_mem _ (ly.1.frJ (by decide) hl))
    · rw [z] at hl ⊢; exact List.mem_cons_of_mem _ (List.mem_cons_of_mem _ (ly.1.frJ (by decide) hl)))
  have nj : ∀ a, a = 34 ∨ a = 36 ∨ a = 41 → mJ M2 a = mJ M1 a := fun a ha => s.j a (fun z => by
    unfold jL at z
    simp only [List.mem_cons, List.not_mem_nil, or_false] at z
    have n1 := ly.1.nf (b := 82) (by decide) (a := a) (by omega) (by rcases ha with q | q | q <;> rw [q] <;> decide)
    have n2 := ly.1.nf (b := 84) (by decide) (a := a) (by omega) (by rcases ha with q | q | q <;> rw [q] <;> decide)
    omega)
  refine ⟨ar', d', ⟨fr.1.trans sx, fun j h1 h2 => by rw [e]; exact fr.2.1 j h1 h2, fr.2.2.1, by rw [s.z]; exact fr.2.2.2.1, by rw [s.n]; exact fr.2.2.2.2⟩, h.sm s (by rw [e]) (by decide), ?_, ?_⟩
  · unfold CostC at *
    rw [e, nj 34 (by omega), nj 36 (by omega), nj 41 (by omega)]
    exact hc
  · have ly' : LY M2 ar' d' := ly.sm s (by rw [e])
    refine ⟨ly', ?_⟩
    rw [e]
    rcases hm.2 with z | ⟨z, y⟩
    · exact .inl z
    · exact .inr ⟨z, y.row ly' (e 61) (by rw [s.r]) (fun b _ => e _)⟩
theorem S11_stacks {M : MM} {ar : Nat → Nat} {d : Nat} (h : CoC M P o nw) (hc : CostC M P o) (hm : MacC M P o ar d) (x y : Int32) : ∃ M' r, f11_stacks M 1 x y = some (r, M') ∧ McR M d P o nw M' ∧ ((ibx (pS P) x && ibx 13 y) = false → r = -1) ∧ ∀ p i, p < pS P → i < 13 → x = nI p → y = nI i → ∃ q nb L gd, NmA P o p q nb L ∧ (∀ k, k < q → gd k = L k []) ∧ 0 < q ∧ r = lN (cwN (pG P) nb gd i 0) := by
  have w := h.1
  have hp := h.2.1
  have p5 := hp.1
  obtain ⟨a1, e1, e3⟩ := h.pr
  unfold f11_stacks
  rw [aO_1 w, e1, e3.oP w, S7_hasState w e3, cI_some]
  by_cases c : ibx (pS P) x = true
  · obtain ⟨p, hp0, rfl⟩ := ibx_out c (by omega)
    rw [c, bI_t, if_neg (by decide), Bool.true_and]
    by_cases c2 : ibx 13 y = true
    · obtain ⟨i, hi, rfl⟩ := ibx_out c2 (by omega)
      obtain ⟨M1, ar', d', E, R, n, S, t, K, os, q, v, b1, b2, b3, b4, b5, b6⟩ := S11_settleMachine h hc hm hp0
      have w1 := b3.1
      obtain ⟨qn, q0, le⟩ := b6.row
      have nm := b6.nm hp (okT_g hp) hp0
      obtain ⟨M2, g1, g2⟩ := S5_countWords hp b6 (show i < 2 ^ 30 by omega)
      rw [if_neg (nI_pos (by omega)), show (12 : Int32) = nI 12 from rfl, if_pos (nI_le (by omega) (by omega)), aO_1 w, b1, cV_some, aO_1 w1, r_1_9 w1, aO_61 w1, g1, cJ_some]
      refine ⟨M2, _, rfl, McR.jrow b2 b3 b4 b5 g2, (fun z => by rw [c2] at z; cases z), fun p' i' hp' hi' e e' => ?_⟩
      rw [nI_eq (by omega) (by omega)] at e e'
      rw [← e, ← e']
      exact ⟨q, _, _, _, nm, fun _ _ => rfl, q0, rfl⟩
    · rw [Bool.not_eq_true] at c2
      have key : ∀ (X : Option (Int64 × MM)), (if y < 0 then some ((-1 : Int64), M) else if y ≤ (12 : Int32) then X else some ((-1 : Int64), M)) = some (-1, M) := fun X => by
        rcases x_cases y with z | ⟨j, hj, rfl⟩
        · rw [if_pos z]
        · rw [ibx_nI (by omega) hj] at c2
          have : 13 ≤ j := Nat.le_of_not_lt (of_decide_eq_false c2)
          rw [if_neg (nI_pos hj), show (12 : Int32) = nI 12 from rfl, if_neg (nI_ge (by omega) hj)]
      rw [key]
      refine ⟨M, -1, rfl, McR.same h hc hm, fun _ => rfl, fun p' i' hp' hi' e e' => ?_⟩
      rw [e', ibx_nI (by omega) (by omega), decide_eq_true hi'] at c2
      cases c2
  · rw [Bool.not_eq_true] at c
    rw [c, bI_f, if_pos rfl]
    refine ⟨M, -1, rfl, McR.same h hc hm, fun _ => rfl, fun p' i' hp' hi' e e' => ?_⟩
    rw [e, ibx_nI (by omega) (by omega), decide_eq_true hp'] at c
    cases c
end STACKC2
