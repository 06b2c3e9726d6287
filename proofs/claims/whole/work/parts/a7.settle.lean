/-! MACHINES: settled at the class -/
section SETTLEM
variable {P : PG} {o : Nat} {E R : Nat → Nat} {nw : NW}
theorem HereC.x {M M' : MM} {nw : NW} {Is Js : List Nat} (h : HereC M nw) (s : SmX Is Js M M') (hi : avd [23, 25] Is = true) : HereC M' nw := by
  rcases nw with _ | ⟨p, H, q⟩
  · show mI M' 23 0 = nI 40 ∧ mI M' 23 2 = -1 ∧ mI M' 23 3 = 0
    rw [s.i 23 (by decide) (avd_n hi (by decide))]
    exact h
  · show PlC M' 23 p H q
    unfold PlC
    rw [s.i 23 (by decide) (avd_n hi (by decide)), s.i (23 + 2) (by decide) (avd_n hi (by decide))]
    exact h
theorem CoC.x {M M' : MM} {P : PG} {o : Nat} {nw : NW} {Is Js : List Nat} (h : CoC M P o nw) (s : SmX Is Js M M') (h1 : mI M' 1 12 = mI M 1 12) (hi : avd [4, 10, 12, 13, 19, 21, 23, 25] Is = true) : CoC M' P o nw := by
  obtain ⟨a1, a2, a3, ⟨b, b1, b2, b3⟩, a5, a6, a7⟩ := h
  have r1 : ∀ k, mR M' 1 k = mR M 1 k := fun k => s.1 1 k (by decide) (fun z => absurd z.1 (by decide)) (fun z => absurd z.1 (by decide))
  refine ⟨a1.smX s, a2, a3, ⟨b, by rw [r1]; exact b1, by rw [r1]; exact b2, pg_smX s b3 ?_⟩, by rw [h1]; exact a5, a6.x s ?_, a7⟩
  · exact List.all_eq_true.mpr fun x hx => List.all_eq_true.mp hi x (by revert x; decide)
  · exact List.all_eq_true.mpr fun x hx => List.all_eq_true.mp hi x (by revert x; decide)
theorem CostC.x {M M' : MM} {P : PG} {o : Nat} {Is Js : List Nat} (h : CostC M P o) (s : SmX Is Js M M') (h1 : mI M' 1 13 = mI M 1 13) (hj : avd [34, 36, 41] Js = true) : CostC M' P o := by
  unfold CostC at *
  rw [h1, s.j 34 (by decide) (avd_n hj (by decide)), s.j 36 (by decide) (avd_n hj (by decide)), s.j 41 (by decide) (avd_n hj (by decide))]
  exact h
/-- the machines of the class -/
def MacC (M : MM) (P : PG) (o : Nat) (ar : Nat → Nat) (d : Nat) : Prop := LY M ar d ∧ (mI M 1 14 = 0 ∨ (mI M 1 14 = 1 ∧ MaC M ar d P o))
theorem NdN.row {M M' : MM} {ar : Nat → Nat} {n : Nat} {t : Nat → Nat → Nat} {K : Nat → Nat} {p : Nat} {os : Nat → Nat} {q : Nat} {v : Nat → Nat} (h : NdN M ar P n t K p os q v) (h61 : mI M' 61 = mI M 61) (hi : ∀ b, b ∈ dI → mI M' (ar b) = mI M (ar b)) : NdN M' ar P n t K p os q v := by
  obtain ⟨⟨a1, a2, a3, a4⟩, b1, b2, b3, b4⟩ := h
  refine ⟨⟨by rw [h61]; exact a1, by rw [hi 78 (by decide)]; exact a2, a3, by rw [hi 76 (by decide)]; exact a4⟩, b1, b2, b3, ?_⟩
  unfold PA at *
  rw [hi 80 (by decide)]
  exact b4
theorem MaQ.row {M M' : MM} {ar : Nat → Nat} {d n : Nat} {S : Nat → Nat} {t : Nat → Nat → Nat} {K : Nat → Nat} (h : MaQ M ar d P o E R n S t K) (ly : LY M' ar d) (h61 : mI M' 61 = mI M 61) (r5 : mR M' 61 5 = mR M 61 5) (hi : ∀ b, b ∈ dI → mI M' (ar b) = mI M (ar b)) : MaQ M' ar d P o E R n S t K := by
  obtain ⟨hE, tc, pk, ok⟩ := h
  obtain ⟨k1, -⟩ := tc.1.k5
  refine ⟨hE, ⟨ly, ?_⟩, ?_, ok⟩
  · rw [h61, hi 66 (by decide), hi 70 (by decide)]
    exact tc.2
  · unfold PKC at *
    rw [r5, hi _ k1]
    exact pk
theorem MaC.row {M M' : MM} {ar : Nat → Nat} {d : Nat} (h : MaC M ar d P o) (ly : LY M' ar d) (h61 : mI M' 61 = mI M 61) (r5 : mR M' 61 5 = mR M 61 5) (hi : ∀ b, b ∈ dI → mI M' (ar b) = mI M (ar b)) : MaC M' ar d P o := by
  obtain ⟨E, R, n, S, t, K, q, z⟩ := h
  refine ⟨E, R, n, S, t, K, q.row ly h61 r5 hi, ?_⟩
  rw [h61]
  rcases z with z | ⟨p, os, q, v, z1, z2, z3⟩
  · exact .inl z
  · exact .inr ⟨p, os, q, v, z1, z2, z3.row h61 hi⟩
def okM (Is : List Nat) : Bool := Is.all fun a => decide (a < 119) && !(61 :: dA).elem a
theorem okM_n {M : MM} {ar : Nat → Nat} {d : Nat} (ly : LY M ar d) {Is : List Nat} (h : okM Is = true) {b : Nat} (hb : b ∈ dI) : ar b ∉ Is ∧ 61 ∉ Is := by
  constructor
  · intro q
    have := List.all_eq_true.mp h _ q
    rw [Bool.and_eq_true, decide_eq_true_eq] at this
    have e : dA.elem (ar b) = false := by
      have t := this.2
      cases c : dA.elem (ar b) with
      | false => rfl
      | true =>
        rw [show (61 :: dA).elem (ar b) = true from List.elem_eq_true_of_mem (List.mem_cons_of_mem _ (List.mem_of_elem_eq_true c))] at t
        cases t
    exact absurd rfl (ly.nf hb this.1 e)
  · intro q
    have := List.all_eq_true.mp h _ q
    exact absurd this (by decide)
theorem MacC.sm {M M' : MM} {ar : Nat → Nat} {d : Nat} (h : MacC M P o ar d) {Is Js : List Nat} (s : Sm Is Js M M') (h14 : mI M' 1 14 = mI M 1 14) (hi : okM Is = true) : MacC M' P o ar d := by
  obtain ⟨ly, z⟩ := h
  have e61 : mI M' 61 = mI M 61 := s.i 61 (okM_n ly hi (b := 66) (by decide)).2
  have ly' : LY M' ar d := ly.sm s (by rw [e61])
  refine ⟨ly', ?_⟩
  rw [h14]
  rcases z with z | ⟨z, y⟩
  · exact .inl z
  · exact .inr ⟨z, y.row ly' e61 (by rw [s.r]) (fun b hb => s.i _ (okM_n ly hi hb).1)⟩
/-- what settling a machine leaves -/
def FrM (M : MM) (d : Nat) (M' : MM) (d' : Nat) : Prop := SmX (1 :: IX) (34 :: 36 :: JX) M M' ∧ (∀ j, j ≠ 13 → j ≠ 14 → mI M' 1 j = mI M 1 j) ∧ d ≤ d' ∧ mz M' + 10 * d = mz M + 10 * d' ∧ mn M' + 30 * RMs d = mn M + 30 * RMs d'
theorem S11_settleMachine {M : MM} {ar : Nat → Nat} {d : Nat} (h : CoC M P o nw) (hc : CostC M P o) (hm : MacC M P o ar d) {p : Nat} (hp0 : p < pS P) : ∃ M' ar' d' E R n S t K os q v, f11_settleMachine M 1 (nI p) = some M' ∧ FrM M d M' d' ∧ CoC M' P o nw ∧ CostC M' P o ∧ MacC M' P o ar' d' ∧ NdC M' ar' d' P o p E R n S t K os q v := by
  have w := h.1
  have hp := h.2.1
  have hT : okT (pG P) (gTG P) := okT_g hp
  obtain ⟨M1, E, R, d1, d2, d3, d4, d5, d6, d7, d8⟩ := S11_settle h hc
  have h1 := h.sm d2 (d3 12 (by decide)) (by decide)
  have w1 := h1.1
  have m1 : MacC M1 P o ar d := hm.sm d2 (d3 14 (by decide)) (by decide)
  have c1 : CostC M1 P o := ⟨.inr d4, ⟨E, R, d5, d6, d7, fun _ => d8⟩, by
    obtain ⟨-, -, R', x1, x2⟩ := hc
    exact ⟨R', by rw [d2.j 41 (by decide)]; exact x1, x2⟩⟩
  obtain ⟨ly1, hst⟩ := m1
  have fin : ∀ {X : MM} {a : Nat → Nat} {dd : Nat}, MaC X a dd P o → SmX (1 :: IX) (34 :: 36 :: JX) M1 X → (∀ j, j ≠ 13 → j ≠ 14 → mI X 1 j = mI M1 1 j) → mI X 1 13 = 1 → mI X 1 14 = 1 → mJ X 34 = lR E → mJ X 36 = lR R → mJ X 41 = mJ M1 41 → d ≤ dd → mz X + 10 * d = mz M1 + 10 * dd → mn X + 30 * RMs d = mn M1 + 30 * RMs dd → f11_settleMachine M 1 (nI p) = f11_settleMachine_b38 X 1 (nI p) → ∃ M' ar' d' E R n S t K os q v, f11_settleMachine M 1 (nI p) = some M' ∧ FrM M d M' d' ∧ CoC M' P o nw ∧ CostC M' P o ∧ MacC M' P o ar' d' ∧ NdC M' ar' d' P o p E R n S t K os q v := fun {X a dd} hX sx f1 f13 f14 j34 j36 j41 hd hz hn hs => by
    obtain ⟨M2, E', R', n, S, t, K, os, q, v, b1, b2, b2', b3⟩ := S5_numberFrom hp hX hp0
    have wX : Wl X := w1.smX sx
    have i1 : mI M2 1 = mI X 1 := b2.1.i 1 (by decide) (by decide)
    have sAll : SmX (1 :: IX) (34 :: 36 :: JX) M M2 := ((d2.x (Is' := 1 :: IX) (Js' := 34 :: 36 :: JX) (fun a ha _ => by
        rw [List.mem_singleton.mp ha]; decide) (fun a ha _ => by
        simp only [List.mem_cons, List.not_mem_nil, or_false] at ha
        rcases ha with e | e <;> rw [e] <;> decide)).trans sx).trans (b2.1.more (by decide) (by decide))
    have fAll : ∀ j, j ≠ 13 → j ≠ 14 → mI M2 1 j = mI M 1 j := fun j h1 h2 => by rw [i1, f1 j h1 h2, d3 j h1]
    refine ⟨M2, a, dd, E', R', n, S, t, K, os, q, v, ?_, ⟨sAll, fAll, hd, ?_, ?_⟩, h.x sAll (fAll 12 (by decide) (by decide)) (by decide), ⟨.inr (by rw [i1]; exact f13), ⟨E, R, by rw [b2.1.j 34 (by decide) (by decide)]; exact j34, by rw [b2.1.j 36 (by decide) (by decide)]; exact j36, d7, fun _ => d8⟩, ?_⟩, ⟨b3.1.2.1.1, .inr ⟨by rw [i1]; exact f14, E', R', n, S, t, K, b3.1, .inr ⟨p, os, q, v, hp0, b3.2.1, b3.2.2⟩⟩⟩, b3⟩
    · rw [hs]
      unfold f11_settleMachine_b38
      rw [aO_1 wX, r_1_9 wX, aO_61 wX, b1, cV_some]
    · have z1 := b2.2.2.1
      rw [d2.z] at hz
      omega
    · have z1 := b2.2.2.2
      rw [d2.n] at hn
      omega
    · obtain ⟨-, -, R', x1, x2⟩ := c1
      exact ⟨R', by rw [b2.1.j 41 (by decide) (by decide), j41]; exact x1, x2⟩
  rcases hst with z | ⟨z, hq⟩
  · have nt : NtC M1 P o E R := ⟨w1, d5, ⟨R, d6, fun _ _ => rfl⟩, d8⟩
    obtain ⟨a1, e1, e2, e3⟩ := h1.2.2.2.1
    obtain ⟨M2, ar2, dd2, n, S, t, g1, g2, g3, g4⟩ := S5_build ly1 nt hp hT e3
    obtain ⟨M3, K, k1, k2, k3, k4, k5, k6⟩ := S5_sortOut hp g3 hT d8
    obtain ⟨M4, hM4⟩ : ∃ M4, M4 = sI M3 1 14 1 := ⟨_, rfl⟩
    have s4 : Sm [1] [] M3 M4 := by rw [hM4, sI_e]; exact (Sm.rfl _ _ M3).uI _ (by decide)
    have fr := g2.trans k2
    have i3 : mI M3 1 = mI M1 1 := fr.1.i 1 (by decide) (by decide)
    have f4 : ∀ j, j ≠ 14 → mI M4 1 j = mI M3 1 j := fun j hj => by rw [hM4, mI_sI, if_neg (fun z => hj z.2)]
    have ly4 : LY M4 ar2 dd2 := k4.1.sm s4 (by rw [s4.i 61 (by decide)])
    have w2 := g3.1.1.w
    have w3 := k4.1.1.w
    refine fin (X := M4) (a := ar2) (dd := dd2) ⟨E, R, n, S, t, K, MaQ.row ⟨d8, k4, k5, k6⟩ ly4 (s4.i 61 (by decide)) (by rw [s4.r]) (fun b hb => s4.i _ (fun z => k4.1.nf hb (a := 1) (by decide) (by decide) (List.mem_singleton.mp z).symm)), .inl (by rw [s4.i 61 (by decide), k3]; exact g4)⟩ ((fr.1.more (by decide) (by decide)).trans (s4.x (fun a ha _ => by rw [List.mem_singleton.mp ha]; decide) (fun _ q => by cases q))) (fun j h1 h2 => by rw [f4 j h2, i3]) (by rw [f4 13 (by decide), i3]; exact d4) (by rw [hM4, mI_sI, if_pos ⟨rfl, rfl⟩]) (by rw [s4.j 34 (by decide), fr.1.j 34 (by decide) (by decide)]; exact d5) (by rw [s4.j 36 (by decide), fr.1.j 36 (by decide) (by decide)]; exact d6) (by rw [s4.j 41 (by decide), fr.1.j 41 (by decide) (by decide)]) fr.2.1 (by rw [s4.z]; exact fr.2.2.1) (by rw [s4.n]; exact fr.2.2.2) ?_
    unfold f11_settleMachine
    rw [aO_1 w, d1, cV_some, aO_1 w1, z, if_pos rfl, aO_1 w1, aO_1 w1, aO_1 w1, r_1_9 w1, aO_61 w1, e1, r_1_5 w1, g1, cV_some, aO_1 w2, r_1_9 w2, aO_61 w2, k1, cV_some, aO_1 w3, bM_e, ← hM4]
  · refine fin (X := M1) (a := ar) (dd := d) hq (SmX.rfl _ _ _) (fun _ _ _ => rfl) d4 z d5 d6 rfl (Nat.le_refl _) rfl rfl ?_
    unfold f11_settleMachine
    rw [aO_1 w, d1, cV_some, aO_1 w1, z, if_neg (by decide)]
end SETTLEM
