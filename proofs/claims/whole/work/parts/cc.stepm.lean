/-! EVERY CALL: machines -/
section STEPM
theorem lst_cg {G q : Nat} {nb nb' : Nat → Nat → Nat} {gd gd' : Nat → Bool} (hnb : ∀ k g, k < q → g < G → nb k g < q) (e1 : ∀ k g, k < q → g < G → nb k g = nb' k g) (e2 : ∀ k, k < q → gd k = gd' k) {D k : Nat} (hk : k < q) : lst G nb gd D k ↔ lst G nb' gd' D k := by
  unfold lst
  rw [rdB_cg hnb e1 e2 D k hk]
  refine and_congr_right fun _ => forall_congr' fun i => forall_congr' fun _ => ?_
  rw [rdB_cg hnb e1 e2 i k hk]
theorem GRk_cg {G q : Nat} {nb nb' : Nat → Nat → Nat} {gd gd' : Nat → Bool} (hnb : ∀ k g, k < q → g < G → nb k g < q) (e1 : ∀ k g, k < q → g < G → nb k g = nb' k g) (e2 : ∀ k, k < q → gd k = gd' k) {D k : Nat} (hk : k < q) {W N : Nat → Nat} (h : GRk G nb gd D k W N) : GRk G nb' gd' D k W N := by
  obtain ⟨h0, h1⟩ := h
  have lt : ∀ s, s ≤ D → N s < q := fun s => by
    induction s with
    | zero => exact fun _ => by rw [h0]; exact hk
    | succ s ih =>
      intro hs
      obtain ⟨w1, -, -, w4⟩ := h1 s (by omega)
      rw [w4]
      exact hnb _ _ (ih (by omega)) w1
  refine ⟨h0, fun s hs => ?_⟩
  obtain ⟨w1, w2, w3, w4⟩ := h1 s hs
  have l := lt s (by omega)
  refine ⟨w1, ?_, fun g hg => ?_, ?_⟩
  · rw [← e1 _ _ l w1, ← rdB_cg hnb e1 e2 _ _ (hnb _ _ l w1)]
    exact w2
  · rw [← e1 _ _ l (by omega), ← rdB_cg hnb e1 e2 _ _ (hnb _ _ l (by omega))]
    exact w3 g hg
  · rw [← e1 _ _ l w1]
    exact w4
theorem shA_cg {G q : Nat} {nb nb' : Nat → Nat → Nat} {gd gd' : Nat → Bool} (hq : 0 < q) (hnb : ∀ k g, k < q → g < G → nb k g < q) (e1 : ∀ k g, k < q → g < G → nb k g = nb' k g) (e2 : ∀ k, k < q → gd k = gd' k) {y r : Int32} (h : shA G nb gd y r) : shA G nb' gd' y r := by
  obtain ⟨h1, h2⟩ := h
  refine ⟨fun z => h1 (fun i => by rw [rdB_cg hnb e1 e2 i 0 hq]; exact z i), fun D hD => ?_⟩
  obtain ⟨a1, a2, a3⟩ := h2 D ((lst_cg hnb e1 e2 hq).mpr hD)
  refine ⟨a1, fun i hi hy => ?_, a3⟩
  obtain ⟨W, N, g1, g2⟩ := a2 i hi hy
  exact ⟨W, N, GRk_cg hnb e1 e2 hq g1, g2⟩
theorem GW_nil (G : Nat) : GW G [] := fun x hx => by cases hx
theorem NmA.lt {P : PG} {o p q : Nat} {nb : Nat → Nat → Nat} {L : Nat → List Nat → Bool} (h : NmA P o p q nb L) : ∀ k g, k < q → g < pG P → nb k g < q := fun k g hk hg => by
  obtain ⟨L0, -, h2⟩ := h
  exact (h2.2.1 k g hk hg).1
theorem st_machine (x : Int32) : St (fun M => f11_machine M 1 x) (fun M => f12_machine M 86 x) := fun M ⟨Q, o, nw, n, A, L, B, ar, d, a, f1, f2, ic, im, aw, iz⟩ => by
  obtain ⟨M1, r, a1, a2, a3, a4⟩ := S11_machine ic.1 ic.2.1 ic.2.2.1 x
  obtain ⟨ar', d', ic1, im1, iz1⟩ := iq1M ic im iz a2
  obtain ⟨M2, r', b1, b2, b3, b4, b5, b6, b7, b8, b9⟩ := SM_machine im1.1.1.1 im1.1.1.2.1 im1.1.1.2.2 x
  have e : r = r' := by
    cases c : ibx (pS Q.1) x with
    | false => rw [a3 c, b8 c]
    | true =>
      obtain ⟨p, hp, e⟩ := ibx_out c (by have := ic.1.2.1.1; omega)
      obtain ⟨q, nb, L1, n1, e1⟩ := a4 p hp e
      obtain ⟨q', nb', L1', n1', e1'⟩ := b9 p hp e
      rw [e1, e1', (NmA_eq ic.1.2.1 n1 n1').1]
  rw [← e] at b1
  exact ⟨r, M1, M2, a1, b1, iq2M ic1 im1 aw iz1 b2 (by decide) b3 b4 b5 b6⟩
theorem st_next (x y z : Int32) : St (fun M => f11_next M 1 x y z) (fun M => f12_next M 86 x y z) := fun M ⟨Q, o, nw, n, A, L, B, ar, d, a, f1, f2, ic, im, aw, iz⟩ => by
  obtain ⟨M1, r, a1, a2, a3, a4⟩ := S11_next ic.1 ic.2.1 ic.2.2.1 x y z
  obtain ⟨ar', d', ic1, im1, iz1⟩ := iq1M ic im iz a2
  obtain ⟨M2, r', b1, b2, b3, b4, b5, b6, b7, b8, b9⟩ := SM_next im1.1.1.1 im1.1.1.2.1 im1.1.1.2.2 x y z
  have e : r = r' := by
    cases c : ibx (pS Q.1) x && ibx (pG Q.1) z with
    | false => rw [a3 c, b8 c]
    | true =>
      rw [Bool.and_eq_true] at c
      obtain ⟨p, hp, e⟩ := ibx_out c.1 (by have := ic.1.2.1.1; omega)
      obtain ⟨g, hg, eg⟩ := ibx_out c.2 (by have := ic.1.2.1.2.1; omega)
      obtain ⟨q, nb, L1, n1, e1, e2⟩ := a4 p g hp hg e eg
      obtain ⟨q', nb', L1', n1', e1', e2'⟩ := b9 p g hp hg e eg
      obtain ⟨z1, z2, z3⟩ := NmA_eq ic.1.2.1 n1 n1'
      rw [← z1] at e1' e2'
      cases cy : ibx q y with
      | false => rw [e1 cy, e1' cy]
      | true =>
        obtain ⟨k, hk, ek⟩ : ∃ i, i < q ∧ y = nI i := by
          rcases Nat.lt_or_ge q (2 ^ 31) with lt | ge
          · exact ibx_out cy lt
          · unfold ibx at cy
            rw [Bool.and_eq_true, Bool.not_eq_true', decide_eq_false_iff_not] at cy
            obtain ⟨k, h1, h2⟩ := nI_of cy.1
            exact ⟨k, by omega, h2⟩
        rw [e2 k hk ek, e2' k hk ek, z2 k g hk hg]
  rw [← e] at b1
  exact ⟨r, M1, M2, a1, b1, iq2M ic1 im1 aw iz1 b2 (by decide) b3 b4 b5 b6⟩
theorem st_good (x y : Int32) : St (fun M => f11_good M 1 x y) (fun M => f12_good M 86 x y) := fun M ⟨Q, o, nw, n, A, L, B, ar, d, a, f1, f2, ic, im, aw, iz⟩ => by
  obtain ⟨M1, r, a1, a2, a3, a4⟩ := S11_good ic.1 ic.2.1 ic.2.2.1 x y
  obtain ⟨ar', d', ic1, im1, iz1⟩ := iq1M ic im iz a2
  obtain ⟨M2, r', b1, b2, b3, b4, b5, b6, b7, b8, b9⟩ := SM_good im1.1.1.1 im1.1.1.2.1 im1.1.1.2.2 x y
  have e : r = r' := by
    cases c : ibx (pS Q.1) x with
    | false => rw [a3 c, b8 c]
    | true =>
      obtain ⟨p, hp, e⟩ := ibx_out c (by have := ic.1.2.1.1; omega)
      obtain ⟨q, nb, L1, n1, e1, e2⟩ := a4 p hp e
      obtain ⟨q', nb', L1', n1', e1', e2'⟩ := b9 p hp e
      obtain ⟨z1, z2, z3⟩ := NmA_eq ic.1.2.1 n1 n1'
      rw [← z1] at e1' e2'
      cases cy : ibx q y with
      | false => rw [e1 cy, e1' cy]
      | true =>
        obtain ⟨k, hk, ek⟩ : ∃ i, i < q ∧ y = nI i := by
          rcases Nat.lt_or_ge q (2 ^ 31) with lt | ge
          · exact ibx_out cy lt
          · unfold ibx at cy
            rw [Bool.and_eq_true, Bool.not_eq_true', decide_eq_false_iff_not] at cy
            obtain ⟨k, h1, h2⟩ := nI_of cy.1
            exact ⟨k, by omega, h2⟩
        rw [e2 k hk ek, e2' k hk ek, z3 k hk [] (GW_nil _)]
  rw [← e] at b1
  exact ⟨r, M1, M2, a1, b1, iq2M ic1 im1 aw iz1 b2 (by decide) b3 b4 b5 b6⟩
theorem st_same (x y : Int32) : St (fun M => f11_same M 1 x y) (fun M => f12_same M 86 x y) := fun M ⟨Q, o, nw, n, A, L, B, ar, d, a, f1, f2, ic, im, aw, iz⟩ => by
  obtain ⟨M1, r, a1, a2, a3, a4⟩ := S11_same ic.1 ic.2.1 ic.2.2.1 x y
  obtain ⟨ar', d', ic1, im1, iz1⟩ := iq1M ic im iz a2
  obtain ⟨M2, r', b1, b2, b3, b4, b5, b6, b7, b8, b9⟩ := SM_same im1.1.1.1 im1.1.1.2.1 im1.1.1.2.2 x y
  have e : r = r' := by
    cases c : ibx (pS Q.1) x && ibx (pS Q.1) y with
    | false => rw [a3 c, b8 c]
    | true =>
      rw [Bool.and_eq_true] at c
      obtain ⟨p, hp, e⟩ := ibx_out c.1 (by have := ic.1.2.1.1; omega)
      obtain ⟨p', hp', e'⟩ := ibx_out c.2 (by have := ic.1.2.1.1; omega)
      obtain ⟨b, q1, q2⟩ := a4 p p' hp hp' e e'
      obtain ⟨b', q1', q2'⟩ := b9 p p' hp hp' e e'
      rw [q1, q1', smA_eq ic.1.2.1 q2 q2']
  rw [← e] at b1
  exact ⟨r, M1, M2, a1, b1, iq2M ic1 im1 aw iz1 b2 (by decide) b3 b4 b5 b6⟩
theorem st_stacks (x y : Int32) : St (fun M => f11_stacks M 1 x y) (fun M => f12_stacks M 86 x y) := fun M ⟨Q, o, nw, n, A, L, B, ar, d, a, f1, f2, ic, im, aw, iz⟩ => by
  obtain ⟨M1, r, a1, a2, a3, a4⟩ := S11_stacks ic.1 ic.2.1 ic.2.2.1 x y
  obtain ⟨ar', d', ic1, im1, iz1⟩ := iq1M ic im iz a2
  obtain ⟨M2, r', b1, b2, b3, b4, b5, b6, b7, b8, b9⟩ := SM_stacks im1.1.1.1 im1.1.1.2.1 im1.1.1.2.2 x y
  have e : r = r' := by
    cases c : ibx (pS Q.1) x && ibx 13 y with
    | false => rw [a3 c, b8 c]
    | true =>
      rw [Bool.and_eq_true] at c
      obtain ⟨p, hp, e⟩ := ibx_out c.1 (by have := ic.1.2.1.1; omega)
      obtain ⟨i, hi, ei⟩ := ibx_out c.2 (by decide)
      obtain ⟨q, nb, L1, gd, n1, g1, q1, e1⟩ := a4 p i hp hi e ei
      obtain ⟨q', nb', L1', gd', n1', g1', q1', e1'⟩ := b9 p i hp hi e ei
      obtain ⟨z1, z2, z3⟩ := NmA_eq ic.1.2.1 n1 n1'
      rw [e1, e1', cwN_cg (gd' := gd') n1.lt z2 (fun k hk => by rw [g1 k hk, g1' k (by omega), z3 k hk [] (GW_nil _)]) i 0 q1]
  rw [← e] at b1
  exact ⟨r, M1, M2, a1, b1, iq2M ic1 im1 aw iz1 b2 (by decide) b3 b4 b5 b6⟩
theorem st_shortest (x y : Int32) : St (fun M => f11_shortest M 1 x y) (fun M => f12_shortest M 86 x y) := fun M ⟨Q, o, nw, n, A, L, B, ar, d, a, f1, f2, ic, im, aw, iz⟩ => by
  obtain ⟨M1, r, a1, a2, a3, a4⟩ := S11_shortest ic.1 ic.2.1 ic.2.2.1 x y
  obtain ⟨ar', d', ic1, im1, iz1⟩ := iq1M ic im iz a2
  obtain ⟨M2, r', b1, b2, b3, b4, b5, b6, b7, b8, b9⟩ := SM_shortest im1.1.1.1 im1.1.1.2.1 im1.1.1.2.2 x y
  have e : r = r' := by
    cases c : ibx (pS Q.1) x with
    | false => rw [a3 c, b8 c]
    | true =>
      obtain ⟨p, hp, e⟩ := ibx_out c (by have := ic.1.2.1.1; omega)
      obtain ⟨q, nb, L1, gd, n1, g1, q1, e1⟩ := a4 p hp e
      obtain ⟨q', nb', L1', gd', n1', g1', q1', e1'⟩ := b9 p hp e
      obtain ⟨z1, z2, z3⟩ := NmA_eq ic.1.2.1 n1 n1'
      exact shA_eq (shA_cg q1 n1.lt z2 (fun k hk => by rw [g1 k hk, g1' k (by omega), z3 k hk [] (GW_nil _)]) e1) e1'
  rw [← e] at b1
  exact ⟨r, M1, M2, a1, b1, iq2M ic1 im1 aw iz1 b2 (by decide) b3 b4 b5 b6⟩
end STEPM
