/-! MACHINES: numbers of nodes, at the class -/
section NUMC
variable {P : PG} {o : Nat} {E R : Nat → Nat}
def nlL (ar : Nat → Nat) : List Nat := [61, ar 76, ar 78, ar 80]
theorem nlL_n {M : MM} {ar : Nat → Nat} {d : Nat} (h : LY M ar d) {b : Nat} (hb : b ∈ dI) (h6 : b ≠ 76) (h8 : b ≠ 78) (h0 : b ≠ 80) : ar b ∉ nlL ar := by
  have a1 := h.ne hb (b' := 76) (by decide) h6
  have a2 := h.ne hb (b' := 78) (by decide) h8
  have a3 := h.ne hb (b' := 80) (by decide) h0
  have a4 := h.nf hb (a := 61) (by decide) (by decide)
  unfold nlL
  simp only [List.mem_cons, List.not_mem_nil, or_false]
  omega
theorem LY.k5n {M : MM} {ar : Nat → Nat} {d : Nat} (h : LY M ar d) : mR M 61 5 ≠ 76 ∧ mR M 61 5 ≠ 78 ∧ mR M 61 5 ≠ 80 := by
  rcases h.1.sw with q | q <;> rw [q.1] <;> exact ⟨by decide, by decide, by decide⟩
theorem TC.num {M M' : MM} {ar : Nat → Nat} {d n : Nat} {S K : Nat → Nat} {t : Nat → Nat → Nat} (h : TC M ar d P E n S t) (pk : PKC M ar n K) (s : Sm (nlL ar) [] M M') (hf : ∀ k, k ≠ 16 → k ≠ 17 → mI M' 61 k = mI M 61 k) : TC M' ar d P E n S t ∧ PKC M' ar n K := by
  have ly := h.1
  obtain ⟨k1, -, -, k4, k5, k6, -, -, -, k7, -⟩ := ly.k5
  obtain ⟨y1, y2, y3⟩ := ly.k5n
  exact ⟨h.sm s (fun k hk => hf k (by omega) (by omega)) (nlL_n ly (by decide) (by decide) (by decide) (by decide)) (nlL_n ly (by decide) (by decide) (by decide) (by decide)), pk.sm s (nlL_n ly k1 y1 y2 y3)⟩
theorem nlL_x {M M' : MM} {ar : Nat → Nat} {d : Nat} (h : LY M ar d) (s : Sm (nlL ar) [] M M') : FrC M d M' d := FrC.of (s.x (fun a ha hl => by
    unfold nlL at ha
    simp only [List.mem_cons, List.not_mem_nil, or_false] at ha
    rcases ha with e | e | e | e
    · rw [e]; decide
    · rw [e] at hl ⊢; exact h.1.frI (by decide) hl
    · rw [e] at hl ⊢; exact h.1.frI (by decide) hl
    · rw [e] at hl ⊢; exact h.1.frI (by decide) hl) (fun _ q => by cases q)) s.z s.n
def NOC (M : MM) (ar : Nat → Nat) (n : Nat) (K os : Nat → Nat) (q : Nat) : Prop := mI M 61 17 = nI q ∧ (∀ k, k < q → mI M (ar 78) k = nI (os k) ∧ os k < n) ∧ (∀ a b, a < q → b < q → K (os a) = K (os b) → a = b) ∧ ∀ x, x < n → (mI M (ar 76) x = -1 ∧ ∀ k, k < q → K (os k) ≠ x) ∨ ∃ k, k < q ∧ mI M (ar 76) x = nI k ∧ K (os k) = x
theorem NOC.le {M : MM} {ar : Nat → Nat} {n : Nat} {K os : Nat → Nat} {q : Nat} (h : NOC M ar n K os q) (hK : ∀ i, i < n → K i < n) : q ≤ n := inj_le n q (fun k => K (os k)) (fun k hk => hK _ (h.2.1 k hk).2) h.2.2.1
def PA (M : MM) (ar : Nat → Nat) (G q c : Nat) (v : Nat → Nat) : Prop := ∀ j, 0 < j → j < q → ∃ k g, g < G ∧ k < j ∧ G * k + g < c ∧ mI M (ar 80) j = nI (6 * k + g) ∧ v (G * k + g) = j ∧ mvN v (G * k + g) + 1 = j
/-- a node more -/
theorem S5_addNode {M : MM} {ar : Nat → Nat} {d n : Nat} {S K os : Nat → Nat} {t : Nat → Nat → Nat} {q : Nat} (h : TC M ar d P E n S t) (pk : PKC M ar n K) (hK : ∀ i, i < n → K i < n) (no : NOC M ar n K os q) {i : Nat} (hi : i < n) (nw : ∀ k, k < q → K (os k) ≠ K i) (x : Int32) : ∃ M', f5_addNode M 61 (nI i) x = some M' ∧ Sm (nlL ar) [] M M' ∧ (∀ k, k ≠ 17 → mI M' 61 k = mI M 61 k) ∧ NOC M' ar n K (upx os q i) (q + 1) ∧ mI M' (ar 80) = upx (mI M (ar 80)) q x := by
  obtain ⟨ly, h15, hr, le, -⟩ := id h
  have w := ly.1.w
  have rr := RMs_le ly.2.2
  obtain ⟨k1, -, -, k4, k5, k6, -, -, -, k7, -⟩ := ly.k5
  obtain ⟨y1, y2, y3⟩ := ly.k5n
  obtain ⟨m1, m2, m3, m4⟩ := id no
  have qn : q < n := by
    have := inj_le n (q + 1) (fun k => K (upx os q i k)) (fun k hk => by
      show K (upx os q i k) < n
      rw [upx_e]
      split
      · exact hK i hi
      · exact hK _ (m2 k (by omega)).2) (fun a b ha hb e => by
      have e' : K (upx os q i a) = K (upx os q i b) := e
      rw [upx_e, upx_e] at e'
      by_cases ca : a = q
      · by_cases cb : b = q
        · rw [ca, cb]
        · rw [if_pos ca, if_neg cb] at e'
          exact absurd e'.symm (nw b (by omega))
      · by_cases cb : b = q
        · rw [if_neg ca, if_pos cb] at e'
          exact absurd e' (nw a (by omega))
        · rw [if_neg ca, if_neg cb] at e'
          exact m3 a b (by omega) (by omega) e')
    omega
  have n6 := ly.nf (b := 76) (by decide) (a := 61) (by decide) (by decide)
  have n8 := ly.nf (b := 78) (by decide) (a := 61) (by decide) (by decide)
  have n0 := ly.nf (b := 80) (by decide) (a := 61) (by decide) (by decide)
  have n68 := ly.ne (b := 76) (b' := 78) (by decide) (by decide) (by decide)
  have n60 := ly.ne (b := 76) (b' := 80) (by decide) (by decide) (by decide)
  have n80 := ly.ne (b := 78) (b' := 80) (by decide) (by decide) (by decide)
  have pi := (pk i hi).1
  have Ki := hK i hi
  obtain ⟨M1, hM1⟩ : ∃ M1, M1 = uI M (ar 76) (upx (mI M (ar 76)) (K i) (nI q)) := ⟨_, rfl⟩
  have s1 : Sm (nlL ar) [] M M1 := by rw [hM1]; exact (Sm.rfl _ _ M).uI _ (by simp [nlL])
  have i1 : mI M1 61 = mI M 61 := by rw [hM1, mI_uI, if_neg n6]
  have ly1 : LY M1 ar d := ly.sm s1 (by rw [i1])
  obtain ⟨M2, hM2⟩ : ∃ M2, M2 = uI M1 (ar 78) (upx (mI M1 (ar 78)) q (nI i)) := ⟨_, rfl⟩
  have s2 : Sm (nlL ar) [] M M2 := by rw [hM2]; exact s1.uI _ (by simp [nlL])
  have i2 : mI M2 61 = mI M 61 := by rw [hM2, mI_uI, if_neg n8, i1]
  have ly2 : LY M2 ar d := ly.sm s2 (by rw [i2])
  obtain ⟨M3, hM3⟩ : ∃ M3, M3 = uI M2 (ar 80) (upx (mI M2 (ar 80)) q x) := ⟨_, rfl⟩
  have s3 : Sm (nlL ar) [] M M3 := by rw [hM3]; exact s2.uI _ (by simp [nlL])
  have i3 : mI M3 61 = mI M 61 := by rw [hM3, mI_uI, if_neg n0, i2]
  have ly3 : LY M3 ar d := ly.sm s3 (by rw [i3])
  obtain ⟨M4, hM4⟩ : ∃ M4, M4 = sI M3 61 17 (nI (q + 1)) := ⟨_, rfl⟩
  have s4 : Sm (nlL ar) [] M M4 := by rw [hM4, sI_e]; exact s3.uI _ (by simp [nlL])
  have f4 : ∀ k, k ≠ 17 → mI M4 61 k = mI M 61 k := fun k hk => by rw [hM4, mI_sI, if_neg (fun z => hk z.2), i3]
  have g76 : mI M4 (ar 76) = upx (mI M (ar 76)) (K i) (nI q) := by
    rw [hM4, sI_e, mI_uI, if_neg n6.symm, hM3, mI_uI, if_neg n60, hM2, mI_uI, if_neg n68, hM1, mI_uI, if_pos rfl]
  have g78 : mI M4 (ar 78) = upx (mI M (ar 78)) q (nI i) := by
    rw [hM4, sI_e, mI_uI, if_neg n8.symm, hM3, mI_uI, if_neg n80, hM2, mI_uI, if_pos rfl, hM1, mI_uI, if_neg n68.symm]
  have g80 : mI M4 (ar 80) = upx (mI M (ar 80)) q x := by
    rw [hM4, sI_e, mI_uI, if_neg n0.symm, hM3, mI_uI, if_pos rfl, hM2, mI_uI, if_neg n80.symm, hM1, mI_uI, if_neg n60.symm]
  have off : ∀ k, k < q → upx os q i k = os k := fun k hk => by rw [upx_e, if_neg (by omega)]
  have on : upx os q i q = i := by rw [upx_e, if_pos rfl]
  refine ⟨M4, ?_, s4, f4, ⟨by rw [hM4, mI_sI, if_pos ⟨rfl, rfl⟩], fun k hk => ?_, fun a b ha hb e => ?_, fun y hy => ?_⟩, g80⟩
  · have l7 : q < ln d 78 := Nat.lt_of_lt_of_le qn hr
    have l8 : q < ln d 80 := Nat.lt_of_lt_of_le qn hr
    have l6 : K i < ln d 76 := Nat.lt_of_lt_of_le Ki hr
    unfold f5_addNode
    rw [aO_61 w, aO_61 w, ly.oI k1, ly.get k1 (by rw [k7]; omega), cI_some, pi, aO_61 w, r_61_7 w, ly.oI (by decide), m1, ly.set (b := 76) (by decide) l6, cV_some, ← hM1]
    rw [aO_61 ly1.1.w, aO_61 ly1.1.w, r_61_8 ly1.1.w, ly1.oI (by decide), i1, m1, ly1.set (b := 78) (by decide) l7, cV_some, ← hM2]
    rw [aO_61 ly2.1.w, aO_61 ly2.1.w, r_61_9 ly2.1.w, ly2.oI (by decide), i2, m1, ly2.set (b := 80) (by decide) l8, cV_some, ← hM3]
    rw [aO_61 ly3.1.w, aO_61 ly3.1.w, i3, m1, nI_1, bM_e, ← hM4]
  · rw [g78, upx_e]
    by_cases e : k = q
    · rw [if_pos e, e, on]
      exact ⟨rfl, hi⟩
    · rw [if_neg e, off k (by omega)]
      exact m2 k (by omega)
  · by_cases ca : a = q
    · by_cases cb : b = q
      · rw [ca, cb]
      · rw [ca, on, off b (by omega)] at e
        exact absurd e.symm (nw b (by omega))
    · by_cases cb : b = q
      · rw [cb, on, off a (by omega)] at e
        exact absurd e (nw a (by omega))
      · rw [off a (by omega), off b (by omega)] at e
        exact m3 a b (by omega) (by omega) e
  · rw [g76, upx_e]
    by_cases e : y = K i
    · rw [if_pos e, e]
      exact .inr ⟨q, by omega, rfl, by rw [on]⟩
    · rw [if_neg e]
      rcases m4 y hy with ⟨z1, z2⟩ | ⟨k, z1, z2, z3⟩
      · refine .inl ⟨z1, fun k hk => ?_⟩
        by_cases ck : k = q
        · rw [ck, on]
          exact fun z => e z.symm
        · rw [off k (by omega)]
          exact z2 k (by omega)
      · exact .inr ⟨k, by omega, z2, by rw [off k z1]; exact z3⟩
theorem L5_nf52 {M0 : MM} {ar : Nat → Nat} {d n : Nat} {S K : Nat → Nat} {t : Nat → Nat → Nat} (hp : WP P) (h0 : TC M0 ar d P E n S t) (pk0 : PKC M0 ar n K) (hK : ∀ i, i < n → K i < n) {k : Nat} : ∀ (e j : Nat), j + e = pG P → ∀ f, e < f → ∀ M os q v, Sm (nlL ar) [] M0 M → (∀ x, x ≠ 17 → mI M 61 x = mI M0 61 x) → NOC M ar n K os q → k < q → SC (pG P) t K os q (pG P * k + j) v → PA M ar (pG P) q (pG P * k + j) v →
    ∃ M' os' q' v', (∀ K35, LP4 (f5_numberFrom_b52_body K35) f M 61 (nI k) (nI j) = K35 M' 61 (nI (k + 1))) ∧ Sm (nlL ar) [] M0 M' ∧ (∀ x, x ≠ 17 → mI M' 61 x = mI M0 61 x) ∧ NOC M' ar n K os' q' ∧ k < q' ∧ os' 0 = os 0 ∧ SC (pG P) t K os' q' (pG P * (k + 1)) v' ∧ PA M' ar (pG P) q' (pG P * (k + 1)) v' ∧ ∀ i, i < pG P * k + j → v' i = v i
  | 0, j, hj, f + 1, _, M, os, q, v, s, fl, no, hk, sc, pa => by
    obtain ⟨tc, pk⟩ := h0.num pk0 s (fun k _ hk => fl k hk)
    have w := tc.1.1.w
    have g6 := hp.2.1
    have e : j = pG P := by omega
    rw [e, ← Nat.mul_succ] at sc pa
    rw [e]
    refine ⟨M, os, q, v, fun K35 => ?_, s, fl, no, hk, rfl, sc, pa, fun _ _ => rfl⟩
    rw [LP4_s]
    generalize LP4 (f5_numberFrom_b52_body K35) f = K1
    unfold f5_numberFrom_b52_body
    rw [aO_61 w, tc.2.2.2.2.2.2.2.2, if_pos (nI_le (Nat.le_refl _) (by omega)), nI_1]
  | e + 1, j, hj, f + 1, hf, M, os, q, v, s, fl, no, hk, sc, pa => by
    obtain ⟨tc, pk⟩ := h0.num pk0 s (fun k _ hk => fl k hk)
    have ly := tc.1
    have w := ly.1.w
    have g6 := hp.2.1
    have le := h0.2.2.2.1
    have hr := h0.2.2.1
    obtain ⟨c1, -, -, c4, c5, c6, -, -, -, c7, -⟩ := ly.k5
    have hq := no.le hK
    obtain ⟨o1, o2⟩ := no.2.1 k hk
    obtain ⟨t1, t2, -⟩ := tc.2.2.2.2.2.1 (os k) j o2 (by omega)
    obtain ⟨p1, -⟩ := pk _ t2
    have kt := hK _ t2
    have hG : 0 < pG P := by omega
    have dv : (pG P * k + j) / pG P = k := by rw [Nat.mul_add_div hG, Nat.div_eq_of_lt (by omega), Nat.add_zero]
    have md : (pG P * k + j) % pG P = j := by rw [Nat.mul_add_mod, Nat.mod_eq_of_lt (by omega)]
    have hc : ∀ c0, c0 ≤ pG P * k + j → c0 / pG P < q := fun c0 h0 => Nat.lt_of_le_of_lt (Nat.le_trans (Nat.div_le_div_right h0) (Nat.le_of_eq dv)) hk
    have l78 : k < ln d 78 := Nat.lt_of_lt_of_le (show k < n by omega) hr
    have l70 : 6 * os k + j < ln d 70 := by
      show _ < RMs d * 6
      omega
    have l76 : K (t (os k) j) < ln d 76 := Nat.lt_of_lt_of_le kt hr
    have head : ∀ K35 (v : Int32), mI M (ar 76) (K (t (os k) j)) = v → LP4 (f5_numberFrom_b52_body K35) (f + 1) M 61 (nI k) (nI j) = if v = (-1 : Int32) then (aO M 61 5 <| cV (f5_addNode M 61 (nI (t (os k) j)) (nI (6 * k + j))) fun M111 => (f5_numberFrom_b114 (LP4 (f5_numberFrom_b52_body K35) f)) M111 61 (nI k) (nI j)) else (f5_numberFrom_b114 (LP4 (f5_numberFrom_b52_body K35) f)) M 61 (nI k) (nI j) := fun K35 v hv => by
      rw [LP4_s]
      generalize LP4 (f5_numberFrom_b52_body K35) f = K1
      unfold f5_numberFrom_b52_body
      rw [aO_61 w, tc.2.2.2.2.2.2.2.2, if_neg (nI_ge (by omega) (by omega)), aO_61 w, aO_61 w, r_61_8 w, ly.oI (by decide), ly.get (by decide) l78, cI_some, o1, r_61_4 w, ly.oI (by decide), lit_6, nI_mulN, nI_add, Nat.mul_comm (os k) 6, ly.get (by decide) l70, cI_some, t1, aO_61 w, aO_61 w, ly.oI c1, ly.get c1 (by rw [c7]; omega), cI_some, p1, r_61_7 w, ly.oI (by decide), ly.get (by decide) l76, cI_some, hv, nI_mulN, nI_add, Nat.mul_comm k 6]
    have next : ∀ (M1 : MM) (os1 : Nat → Nat) (q1 x : Nat), Sm (nlL ar) [] M M1 → (∀ y, y ≠ 17 → mI M1 61 y = mI M 61 y) → NOC M1 ar n K os1 q1 → (∀ i, i < q → os1 i = os i) → x < q1 → K (os1 x) = K (t (os k) j) → (q1 = q ∨ (q1 = q + 1 ∧ x = q)) → (∀ i, i < q → mI M1 (ar 80) i = mI M (ar 80) i) → (q1 = q + 1 → mI M1 (ar 80) q = nI (6 * k + j)) → (∀ K35, LP4 (f5_numberFrom_b52_body K35) (f + 1) M 61 (nI k) (nI j) = LP4 (f5_numberFrom_b52_body K35) f M1 61 (nI k) (nI (j + 1))) → ∃ M' os' q' v', (∀ K35, LP4 (f5_numberFrom_b52_body K35) (f + 1) M 61 (nI k) (nI j) = K35 M' 61 (nI (k + 1))) ∧ Sm (nlL ar) [] M0 M' ∧ (∀ x, x ≠ 17 → mI M' 61 x = mI M0 61 x) ∧ NOC M' ar n K os' q' ∧ k < q' ∧ os' 0 = os 0 ∧ SC (pG P) t K os' q' (pG P * (k + 1)) v' ∧ PA M' ar (pG P) q' (pG P * (k + 1)) v' ∧ ∀ i, i < pG P * k + j → v' i = v i := fun M1 os1 q1 x s1 f1 no1 ho hx he hq1 hp1 hp2 hs => by
      have sc1 := sc.next ho hc hx (by rw [dv, md]; exact he) hq1
      have m0 : ∀ c0, c0 ≤ pG P * k + j → mvN (upx v (pG P * k + j) x) c0 = mvN v c0 := fun c0 h0 => mvN_cg c0 (fun i hi => by rw [upx_e, if_neg (by omega)])
      have pa1 : PA M1 ar (pG P) q1 (pG P * k + (j + 1)) (upx v (pG P * k + j) x) := fun y y0 yq => by
        by_cases e : y < q
        · obtain ⟨k', g', z1, z2, z3, z4, z5, z6⟩ := pa y y0 e
          exact ⟨k', g', z1, z2, by omega, by rw [hp1 y e]; exact z4, by rw [upx_e, if_neg (by omega)]; exact z5, by rw [m0 _ (by omega)]; exact z6⟩
        · have e1 : y = q := by omega
          have e2 : q1 = q + 1 := by omega
          have e3 : x = q := by omega
          refine ⟨k, j, by omega, by omega, by omega, by rw [e1]; exact hp2 e2, by rw [upx_e, if_pos rfl, e3, e1], ?_⟩
          rw [m0 _ (Nat.le_refl _), e1]
          exact sc.2.symm
      obtain ⟨M', os', q', v', k1, k2, k3, k4, k5, k6, k7, k8, k9⟩ := L5_nf52 hp h0 pk0 hK (k := k) e (j + 1) (by omega) f (by omega) M1 os1 q1 _ (s.trans s1) (fun y hy => (f1 y hy).trans (fl y hy)) no1 (by omega) sc1 pa1
      exact ⟨M', os', q', v', fun K35 => (hs K35).trans (k1 K35), k2, k3, k4, k5, k6.trans (ho 0 (by omega)), k7, k8, fun i hi => by rw [k9 i (by omega), upx_e, if_neg (by omega)]⟩
    rcases no.2.2.2 _ kt with ⟨z1, z2⟩ | ⟨x, z1, z2, z3⟩
    · obtain ⟨M1, a1, a2, a3, a4, a5⟩ := S5_addNode tc pk hK no t2 z2 (nI (6 * k + j))
      refine next M1 (upx os q (t (os k) j)) (q + 1) q a2 a3 a4 (fun i hi => by rw [upx_e, if_neg (by omega)]) (by omega) (by rw [upx_e, if_pos rfl]) (.inr ⟨rfl, rfl⟩) (fun i hi => by rw [a5, upx_e, if_neg (by omega)]) (fun _ => by rw [a5, upx_e, if_pos rfl]) (fun K35 => ?_)
      rw [head K35 _ z1, if_pos rfl, aO_61 w, a1, cV_some]
      unfold f5_numberFrom_b114
      rw [nI_1]
    · refine next M os q x (Sm.rfl _ _ _) (fun _ _ => rfl) no (fun _ _ => rfl) z1 z3 (.inl rfl) (fun _ _ => rfl) (fun z => by omega) (fun K35 => ?_)
      rw [head K35 _ z2, if_neg (nI_neM (by omega))]
      unfold f5_numberFrom_b114
      rw [nI_1]
end NUMC
