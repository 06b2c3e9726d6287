/-! MACHINES: the class's table -/
section BUILDC
variable {P : PG} {o : Nat} {E R : Nat → Nat}
def TBC (M : MM) (ar : Nat → Nat) (P : PG) (E : Nat → Nat) (n : Nat) (S : Nat → Nat) (i j : Nat) : Prop := ∀ i' g', g' < pG P → (i' < i ∨ (i' = i ∧ g' < j)) → ∃ k, k < n ∧ mI M (ar 70) (6 * i' + g') = nI k ∧ S k = stC (mC E) (S i') g'
theorem L5_bd75 {M0 : MM} {d0 : Nat} (hp : WP P) (hT : okT (pG P) (gTG P)) (hE : Std P o (gTG P) E R) (h14 : mI M0 61 14 = nI (pG P)) (mv : MV M0 P E) {i : Nat} : ∀ (d j : Nat), j + d = pG P → ∀ f, d < f → ∀ M ar dd n S, FrB M0 d0 M dd → BC M ar dd P E n S → i < n → TBC M ar P E n S i j → (∀ p, p < pS P → p < n ∧ S p = 2 ^ p) →
    ∃ M' ar' dd' n' S', (∀ K57, LP4 (f5_build_b75_body K57) f M 61 (nI i) (nI j) = K57 M' 61 (nI (i + 1))) ∧ FrB M0 d0 M' dd' ∧ BC M' ar' dd' P E n' S' ∧ i < n' ∧ TBC M' ar' P E n' S' (i + 1) 0 ∧ ∀ p, p < pS P → p < n' ∧ S' p = 2 ^ p
  | 0, j, hj, f + 1, _, M, ar, dd, n, S, fr, bc, hi, tb, hs => by
    have w := bc.1.1.w
    have g6 := hp.2.1
    have e : j = pG P := by omega
    rw [e] at tb ⊢
    refine ⟨M, ar, dd, n, S, fun K57 => ?_, fr, bc, hi, fun i' g' hg q => tb i' g' hg (by omega), hs⟩
    rw [LP4_s]
    generalize LP4 (f5_build_b75_body K57) f = K
    unfold f5_build_b75_body
    rw [aO_61 w, fr.2.1 14 (by decide) (by decide), h14, if_pos (nI_le (Nat.le_refl _) (by omega)), nI_1]
  | d + 1, j, hj, f + 1, hf, M, ar, dd, n, S, fr, bc, hi, tb, hs => by
    have w := bc.1.1.w
    have g6 := hp.2.1
    have le := bc.le hT hE
    have rr := RMs_le bc.1.2.2
    have hr := bc.2.2.1
    have ri := bc.2.2.2.1 i hi
    have l66 : i < ln dd 66 := Nat.lt_of_lt_of_le hi hr
    have mv1 : MV M P E := by
      unfold MV
      rw [fr.2.2.1]
      exact mv
    obtain ⟨M1, ar1, d1, n1, S1, k, a1, a2, a3, a4, a5, a6, a7, a8, a9, -⟩ := S5_setNumber bc hT hE (ri.2.step hT hE (show j < pG P by omega))
    have rr1 := RMs_le a2.1.2.2
    have hr1 := a2.2.2.1
    have l70 : 6 * i + j < ln d1 70 := by
      show _ < RMs d1 * 6
      omega
    have l70' : ∀ x, x < 6 * n → x < ln dd 70 := fun x hx => by
      show _ < RMs dd * 6
      omega
    obtain ⟨M2, hM2⟩ : ∃ M2, M2 = uI M1 (ar1 70) (upx (mI M1 (ar1 70)) (6 * i + j) (nI k)) := ⟨_, rfl⟩
    have s2 : Sm [ar1 70] [] M1 M2 := by rw [hM2]; exact (Sm.rfl _ _ M1).uI _ (List.mem_singleton.mpr rfl)
    have n61 := a2.1.nf (b := 70) (a := 61) (by decide) (by decide) (by decide)
    have n63 := a2.1.nf (b := 70) (a := 63) (by decide) (by decide) (by decide)
    have n65 := a2.1.nf (b := 70) (a := 65) (by decide) (by decide) (by decide)
    have n66 := a2.1.ne (b := 66) (b' := 70) (by decide) (by decide) (by decide)
    have n68 := a2.1.ne (b := 68) (b' := 70) (by decide) (by decide) (by decide)
    have i61 : mI M2 61 = mI M1 61 := s2.i 61 (fun z => n61 (List.mem_singleton.mp z))
    have i66 : mI M2 (ar1 66) = mI M1 (ar1 66) := s2.i _ (fun z => n66 (List.mem_singleton.mp z))
    have i68 : mI M2 (ar1 68) = mI M1 (ar1 68) := s2.i _ (fun z => n68 (List.mem_singleton.mp z))
    have i65 : mI M2 65 = mI M1 65 := s2.i _ (fun z => n65 (List.mem_singleton.mp z))
    have i63 : mI M2 63 = mI M1 63 := s2.i _ (fun z => n63 (List.mem_singleton.mp z))
    have r70 : mI M2 (ar1 70) = upx (mI M1 (ar1 70)) (6 * i + j) (nI k) := by rw [hM2, mI_uI, if_pos rfl]
    have fr2 : FrB M1 d1 M2 d1 := ⟨s2.x (fun a ha hl => by rw [List.mem_singleton.mp ha] at hl ⊢; exact a2.1.1.frI (by decide) hl) (fun _ q => by cases q), fun k _ _ => by rw [i61], i63, by rw [s2.r], Nat.le_refl _, by rw [s2.z], by rw [s2.n]⟩
    have bc2 : BC M2 ar1 d1 P E n1 S1 := ⟨a2.1.sm s2 (by rw [i61]), by rw [i61]; exact a2.2.1, a2.2.2.1, by rw [i66]; exact a2.2.2.2.1, a2.2.2.2.2.1, by rw [i65, i68]; exact a2.2.2.2.2.2⟩
    obtain ⟨M', ar', dd', n', S', k1, k2⟩ := L5_bd75 hp hT hE h14 mv (i := i) d (j + 1) (by omega) f (by omega) M2 ar1 d1 n1 S1 ((fr.trans a3).trans fr2) bc2 (by omega) (fun i' g' hg q => by
        by_cases c : i' = i ∧ g' = j
        · refine ⟨k, a7, ?_, ?_⟩
          · rw [r70, upx_e, if_pos (by rw [c.1, c.2])]
          · rw [a8, c.1, c.2, a6 i hi]
        · obtain ⟨k', c1, c2, c3⟩ := tb i' g' hg (by omega)
          refine ⟨k', by omega, ?_, ?_⟩
          · rw [r70, upx_e, if_neg (by omega), a4 70 (by decide) (by decide) (by decide) _ (l70' _ (by omega))]
            exact c2
          · rw [a6 k' c1, a6 i' (by omega)]
            exact c3) (fun p hpp => ⟨by have := (hs p hpp).1; omega, by rw [a6 p (hs p hpp).1]; exact (hs p hpp).2⟩)
    refine ⟨M', ar', dd', n', S', fun K57 => ?_, k2⟩
    rw [← k1 K57, LP4_s]
    generalize LP4 (f5_build_b75_body K57) f = K
    unfold f5_build_b75_body
    rw [aO_61 w, fr.2.1 14 (by decide) (by decide), h14, if_neg (nI_ge (by omega) (by omega)), aO_61 w, aO_61 w, r_61_2 w, bc.1.oI (by decide), bc.1.get (by decide) l66, cI_some, ri.1, aO_61 w, S5_setBehind w hp mv1 ri.2.lt (by omega), cI_some, aO_61 w, a1, cI_some, r_61_4 w, a2.1.oI (by decide), lit_6, nI_mulN, nI_add, Nat.mul_comm i 6, a2.1.set (by decide) l70, cV_some, ← hM2, nI_1]
theorem L5_bd57 {M0 : MM} {d0 : Nat} (hp : WP P) (hT : okT (pG P) (gTG P)) (hE : Std P o (gTG P) E R) (h14 : mI M0 61 14 = nI (pG P)) (mv : MV M0 P E) : ∀ (d i : Nat), i + d = 2341 → ∀ f, d < f → ∀ M ar dd n S, FrB M0 d0 M dd → BC M ar dd P E n S → i ≤ n → TBC M ar P E n S i 0 → (∀ p, p < pS P → p < n ∧ S p = 2 ^ p) →
    ∃ M' ar' dd' n' S', LP3 f5_build_b57_body f M 61 (nI i) = some M' ∧ FrB M0 d0 M' dd' ∧ BC M' ar' dd' P E n' S' ∧ TBC M' ar' P E n' S' n' 0 ∧ ∀ p, p < pS P → p < n' ∧ S' p = 2 ^ p
  | d, i, hd, 0, hf, _, _, _, _, _, _, _, _, _, _ => absurd hf (Nat.not_lt_zero _)
  | d, i, hd, f + 1, hf, M, ar, dd, n, S, fr, bc, hi, tb, hs => by
    have w := bc.1.1.w
    have le := bc.le hT hE
    by_cases c : n ≤ i
    · have e : i = n := by omega
      rw [e] at tb ⊢
      refine ⟨M, ar, dd, n, S, ?_, fr, bc, tb, hs⟩
      rw [LP3_s]
      generalize LP3 f5_build_b57_body f = K
      unfold f5_build_b57_body
      rw [aO_61 w, bc.2.1, if_pos (nI_le (Nat.le_refl _) (by omega))]
    · cases d with
      | zero => omega
      | succ d =>
        obtain ⟨M1, ar1, d1, n1, S1, k1, k2, k3, k4, k5, k6⟩ := L5_bd75 hp hT hE h14 mv (i := i) (pG P) 0 (by omega) FU (FU_big (by have := hp.2.1; omega)) M ar dd n S fr bc (by omega) tb hs
        obtain ⟨M', ar', dd', n', S', z1, z2⟩ := L5_bd57 hp hT hE h14 mv d (i + 1) (by omega) f (by omega) M1 ar1 d1 n1 S1 k2 k3 (by omega) k5 k6
        refine ⟨M', ar', dd', n', S', ?_, z2⟩
        rw [← z1, ← k1 (LP3 f5_build_b57_body f), LP3_s]
        generalize LP3 f5_build_b57_body f = K
        unfold f5_build_b57_body
        rw [aO_61 w, bc.2.1, if_neg (nI_ge (by omega) (by omega)), show (2340 : Int32) = nI 2340 from rfl, if_neg (nI_ge (by omega) (by omega))]
        rfl
theorem pg_smX {Is Js : List Nat} {M M' : MM} {a : Nat} (s : SmX Is Js M M') (h : PgC M a P) (hi : avd [4, 13, 10, 19, 12, 21] Is = true) : PgC M' a P := by
  obtain ⟨h0, h1, h2, h3, h4, h5, h6⟩ := h
  rcases h0 with e | e <;> subst e
  · exact ⟨.inl rfl, by rw [s.i 4 (by decide) (avd_n hi (by decide))]; exact h1, by rw [s.i 4 (by decide) (avd_n hi (by decide))]; exact h2, by rw [s.i 4 (by decide) (avd_n hi (by decide))]; exact h3, by rw [s.i 4 (by decide) (avd_n hi (by decide))]; exact h4, by rw [s.i 10 (by decide) (avd_n hi (by decide))]; exact h5, by rw [s.i 12 (by decide) (avd_n hi (by decide))]; exact h6⟩
  · exact ⟨.inr rfl, by rw [s.i 13 (by decide) (avd_n hi (by decide))]; exact h1, by rw [s.i 13 (by decide) (avd_n hi (by decide))]; exact h2, by rw [s.i 13 (by decide) (avd_n hi (by decide))]; exact h3, by rw [s.i 13 (by decide) (avd_n hi (by decide))]; exact h4, by rw [s.i 19 (by decide) (avd_n hi (by decide))]; exact h5, by rw [s.i 21 (by decide) (avd_n hi (by decide))]; exact h6⟩
theorem PgC.oP {M : MM} {a : Nat} (h : PgC M a P) (w : Wl M) {β : Type} {x : Option β} : aO M a 7 x = x := by
  rcases h.1 with e | e <;> rw [e]
  · exact aO_4 w
  · exact aO_13 w
theorem L5_bd33 {M0 : MM} {d0 a1 : Nat} (hp : WP P) (hT : okT (pG P) (gTG P)) (hE : Std P o (gTG P) E R) (pg : PgC M0 a1 P) : ∀ (d p : Nat), p + d = pS P → ∀ f, d < f → ∀ M ar dd S, FrB M0 d0 M dd → BC M ar dd P E p S → (∀ q, q < p → S q = 2 ^ q) →
    ∃ M' ar' dd' S', LP4 f5_build_b33_body f M 61 a1 (nI p) = f5_build_b57 M' 61 (nI 0) ∧ FrB M0 d0 M' dd' ∧ BC M' ar' dd' P E (pS P) S' ∧ ∀ q, q < pS P → S' q = 2 ^ q
  | 0, p, hd, f + 1, _, M, ar, dd, S, fr, bc, hs => by
    have w := bc.1.1.w
    have p5 := hp.1
    have e : p = pS P := by omega
    have pg1 : PgC M a1 P := pg_smX fr.1 pg (by decide)
    rw [e] at bc hs ⊢
    refine ⟨M, ar, dd, S, ?_, fr, bc, hs⟩
    rw [LP4_s]
    generalize LP4 f5_build_b33_body f = K
    unfold f5_build_b33_body
    rw [pg1.oP w, pg1.2.1, if_pos (nI_le (Nat.le_refl _) (by omega))]
    rfl
  | d + 1, p, hd, f + 1, hf, M, ar, dd, S, fr, bc, hs => by
    have w := bc.1.1.w
    have p5 := hp.1
    have pg1 : PgC M a1 P := pg_smX fr.1 pg (by decide)
    obtain ⟨M1, ar1, d1, n1, S1, k, b1, b2, b3, b4, b5, b6, b7, b8, b9, b10⟩ := S5_setNumber bc hT hE (s := 2 ^ p) (.inl ⟨p, by omega, rfl⟩)
    have kp : p ≤ k := by
      refine Nat.le_of_not_lt (fun q => ?_)
      have e1 := b6 k q
      rw [b8, hs k q] at e1
      have : 2 ^ k < 2 ^ p := Nat.pow_lt_pow_right (by omega) q
      omega
    have one : n1 = p + 1 := by omega
    rw [one] at b2
    obtain ⟨M', ar', dd', S', z1, z2⟩ := L5_bd33 hp hT hE pg d (p + 1) (by omega) f (by omega) M1 ar1 d1 S1 (fr.trans b3) b2 (fun q hq => by
      by_cases c : q = p
      · rw [c]
        have : k = p := b10 one
        rw [this] at b8
        exact b8
      · rw [b6 q (by omega), hs q (by omega)])
    refine ⟨M', ar', dd', S', ?_, z2⟩
    rw [← z1, LP4_s]
    generalize LP4 f5_build_b33_body f = K
    unfold f5_build_b33_body
    rw [pg1.oP w, pg1.2.1, if_neg (nI_ge (by omega) (by omega)), aO_61 w, shl_nI (by omega), b1, cI_some, nI_1]
end BUILDC
