/-! EVERY CALL: drawn runs, programs, places -/
section STEPB
variable {Q : QG} {o : Nat} {nw : NW} {n : Nat} {A : Nat → NW × Nat} {L : Nat} {B : Nat → Nat} {ar : Nat → Nat} {d a : Nat} {f1 f2 : Int32} {P : PG}
theorem st_run (x y : Int32) : St (fun M => f11_run M 1 x y) (fun M => f12_run M 86 x y) := fun M ⟨Q, o, nw, n, A, L, B, ar, d, a, f1, f2, ic, im, aw, iz⟩ => by
  have n12 : n ≤ 12 := im.2.1.2.1
  obtain ⟨M1, r, a1, a2, a3⟩ := S11_run ic.1 ic.2.2.2.2.1 aw x y
  by_cases c : nw = none ∨ ¬ runB y
  · obtain ⟨e1, e2⟩ := a2 c
    obtain ⟨M2, r', b1, b2, b3⟩ := SM_run im.1.1 im.2.1 aw x y
    obtain ⟨e1', e2'⟩ := b2 c
    rw [e1, e2] at a1
    rw [e1', e2'] at b1
    exact ⟨-1, M, _, a1, b1, iq0 ic im aw iz⟩
  · have cn : nw ≠ none := fun z => c (.inl z)
    obtain ⟨m, m1, m2, em⟩ : runB y := Classical.byContradiction fun z => c (.inr z)
    obtain ⟨k, nw', e1, q1, s1, q2, q3⟩ := a3 m m1 m2 em cn
    have cf := s1.cf (by decide) (by decide) d
    have im1 := im.cl q2.1 cf.1
    have ic1 : IC M1 Q o nw' (kpN n) (kpA n A (nw, o)) L B ar d a f1 f2 := ic.mk2 s1 (by decide) (by decide) q2 (ic.2.1.sm s1 (by rw [s1.i 1 (by decide)]) (by decide)) (ic.2.2.1.sm s1 (by rw [s1.i 1 (by decide)]) (by decide)) q3
    obtain ⟨M2, r', b1, b2, b3⟩ := SM_run im1.1.1 im1.2.1 aw x y
    obtain ⟨k', nw'', e1', q1', s2, t1, t2, t3⟩ := b3 m m1 m2 em cn
    obtain ⟨z1, z2⟩ := RunA_eq q1 q1'
    rw [← z2] at t2
    rw [e1, z1] at a1
    rw [e1'] at b1
    exact ⟨_, M1, M2, a1, b1, Q, _, _, _, _, L, B, ar, d, a, f1, f2, ic1.md s2 (by decide) (by decide), im1.mk2 s2 (by decide) (fun j hj => t1 j (by omega) (by omega) (by omega) (by omega)) t2 t3, aw.kp n12 ic.1.2.2.2.2.2.2 ic.1.2.2.1, (iz.cf cf).md s2⟩
theorem HereC.rows {M M' : MM} (h : HereC M nw) (e1 : mI M' 23 = mI M 23) (e2 : mI M' 25 = mI M 25) : HereC M' nw := by
  rcases nw with _ | ⟨p, H, q⟩
  · show mI M' 23 0 = nI 40 ∧ mI M' 23 2 = -1 ∧ mI M' 23 3 = 0
    rw [e1]
    exact h
  · show PlC M' 23 p H q
    unfold PlC
    rw [e1, show mI M' (23 + 2) = mI M (23 + 2) from e2]
    exact h
theorem PnC.rows {M M' : MM} (h : PnC M a Q) (e : ∀ x, x = a ∨ x = a + 6 ∨ x = a + 8 → mI M' x = mI M x) (j : ∀ x, x = a + 2 ∨ x = a + 4 → mJ M' x = mJ M x) : PnC M' a Q := by
  unfold PnC PgC at *
  rw [e a (by omega), e (a + 6) (by omega), e (a + 8) (by omega), j (a + 2) (by omega), j (a + 4) (by omega)]
  exact h
theorem st_system : St (fun M => f11_system M 1) (fun M => f12_system M 86) := fun M ⟨Q, o, nw, n, A, L, B, ar, d, a, f1, f2, ic, im, aw, iz⟩ => by
  obtain ⟨c1, c2, c3, c4, c5, c6, c7, c8, c9, c10⟩ := id ic
  have a4 : a = 4 ∨ a = 13 := c4.2.2.1.1.1
  have wq := c4.2.2.2
  have lo : lo86 (fI (17 - a)) = true ∧ lo86 (fJ (17 - a)) = true ∧ lo86 (1 :: 23 :: 29 :: fI (17 - a)) = true ∧ okM (fI (17 - a)) = true := by
    rcases a4 with e | e <;> subst e <;> decide
  rcases S11_system c1 c4 c6 c5 with ⟨e, M1, x1, x2, x3, x4, x5⟩ | ⟨Q', M1, x1, x2, x3, x4, x5, x6, x7, x8, x9, x10, x11, x12, x13, x14, x15, x16, x17⟩
  · have cf := x3.cf lo.1 lo.2.1 d
    have w1 := c1.1.smR x3
    have im1 := im.cl w1 cf.1
    have ii : ∀ x, x ∉ fI (17 - a) → mI M1 x = mI M x := x3.2.2.2.2.1
    have jj : ∀ x, x ∉ fJ (17 - a) → mJ M1 x = mJ M x := x3.2.2.2.2.2
    have nx : ∀ {x : Nat}, x ≠ 2 → x ≠ 22 → x ≠ 17 - a → x ≠ 17 - a + 6 → x ≠ 17 - a + 8 → mI M1 x = mI M x := fun {x} h1 h2 h3 h4 h5 => ii x (fun z => by
      simp only [fI, List.mem_cons, List.not_mem_nil, or_false] at z
      omega)
    have nj : ∀ {x : Nat}, x ≠ 2 → x ≠ 17 - a + 2 → x ≠ 17 - a + 4 → mJ M1 x = mJ M x := fun {x} h1 h2 h3 => jj x (fun z => by
      simp only [fJ, List.mem_cons, List.not_mem_nil, or_false] at z
      omega)
    have e1 : mI M1 1 = mI M 1 := nx (by omega) (by omega) (by omega) (by omega) (by omega)
    have pn1 : PnC M1 a Q := c4.2.2.1.rows (fun x hx => nx (by omega) (by omega) (by omega) (by omega) (by omega)) (fun x hx => nj (by omega) (by omega) (by omega))
    have r1 : ∀ k, mR M1 1 k = mR M 1 k := fun k => x3.1 1 k (fun z => absurd z.1 (by decide))
    have na1 : NaC M1 a Q := ⟨by rw [r1]; exact c4.1, by rw [r1]; exact c4.2.1, pn1, wq⟩
    have co1 : CoC M1 Q.1 o nw := ⟨w1, wq.1, c1.2.2.1, ⟨a, na1.1, na1.2.1, pn1.1⟩, by rw [e1]; exact c1.2.2.2.2.1, c1.2.2.2.2.2.1.rows (nx (by omega) (by omega) (by omega) (by omega) (by omega)) (nx (by omega) (by omega) (by omega) (by omega) (by omega)), c1.2.2.2.2.2.2⟩
    have cc1 : CostC M1 Q.1 o := by
      unfold CostC at *
      rw [e1, nj (by omega) (by omega) (by omega), nj (by omega) (by omega) (by omega), nj (by omega) (by omega) (by omega)]
      exact c2
    have ac1 : ActC M1 n A := by
      unfold ActC at *
      rw [nx (by omega) (by omega) (by omega) (by omega) (by omega), nx (by omega) (by omega) (by omega) (by omega) (by omega)]
      exact c5
    have tp1 : TpC M1 0 B := ⟨x5, Nat.zero_le _, fun i hi => absurd hi (Nat.not_lt_zero i)⟩
    have ic1 : IC M1 Q o nw n A 0 B ar d a (nI e.1) (nI e.2) := ⟨co1, cc1, c3.smR x3 (by rw [e1]) lo.2.2.2, na1, ac1, tp1, by rw [nx (by omega) (by omega) (by omega) (by omega) (by omega)]; exact c7, by rw [nx (by omega) (by omega) (by omega) (by omega) (by omega)]; exact c8, x4.1, x4.2⟩
    rcases SM_system im1.1 im1.2.2.1 with ⟨e', M2, y1, y2, y3, y4, y5, y6⟩ | ⟨Q', M2, y1, -⟩
    · rw [x1] at y1
      cases y1
      have im2 : IM M2 Q o nw n A 0 B (nI e.1) (nI e.2) := ⟨y3.al im1.1, im1.2.1.sm y3.1 (y3.2.1 23 (by decide) (by decide) (by decide) (by decide) (by decide) ⟨by unfold tF; omega, by decide, by decide⟩) (by decide), ⟨y6, Nat.zero_le _, fun i hi => absurd hi (Nat.not_lt_zero i)⟩, y4, y5⟩
      exact ⟨-1, M1, M2, x2, y2, Q, o, nw, n, A, 0, B, ar, d, a, _, _, ic1.md y3.1 (by decide) (by decide), im2, aw, (iz.cf cf).md y3.1⟩
    · rw [x1] at y1
      cases y1
  · have ii : ∀ x, x ∉ 1 :: 23 :: 29 :: fI (17 - a) → mI M1 x = mI M x := x7
    have nx : ∀ {x : Nat}, x ≠ 1 → x ≠ 23 → x ≠ 29 → x ≠ 2 → x ≠ 22 → x ≠ 17 - a → x ≠ 17 - a + 6 → x ≠ 17 - a + 8 → mI M1 x = mI M x := fun {x} h1 h2 h3 h4 h5 h6 h7 h8 => ii x (fun z => by
      simp only [fI, List.mem_cons, List.not_mem_nil, or_false] at z
      omega)
    have nj : ∀ {x : Nat}, x ≠ 2 → x ≠ 17 - a + 2 → x ≠ 17 - a + 4 → mJ M1 x = mJ M x := fun {x} h1 h2 h3 => x8 x (fun z => by
      simp only [fJ, List.mem_cons, List.not_mem_nil, or_false] at z
      omega)
    have w1 := x9.1
    have cf : CF M d M1 d := ⟨fun x h1 h2 => ⟨nx (by omega) (by omega) (by omega) (by omega) (by omega) (by omega) (by omega) (by omega), nj (by omega) (by omega) (by omega)⟩, fun h _ => by rw [x4]; exact h, by rw [x5], by rw [x6]⟩
    have im1 := im.cl w1 cf.1
    have cc1 : CostC M1 Q'.1 0 := c2.off x12 (fun x hx => nj (by revert x; decide) (by
      simp only [List.mem_cons, List.not_mem_nil, or_false] at hx
      omega) (by
      simp only [List.mem_cons, List.not_mem_nil, or_false] at hx
      omega))
    have mc1 : MacC M1 Q'.1 0 ar d := c3.off w1 x5 x4 (fun x k h1 h2 => x3 x k (fun z => h1 z.1) (fun z => h2 z.1)) (nx (by omega) (by omega) (by omega) (by omega) (by omega) (by omega) (by omega) (by omega)) x13
    have ic1 : IC M1 Q' 0 none 0 A 0 B ar d (17 - a) 0 (-1) := ⟨x9, cc1, mc1, x10, x11, ⟨x16, Nat.zero_le _, fun i hi => absurd hi (Nat.not_lt_zero i)⟩, by rw [nx (by omega) (by omega) (by omega) (by omega) (by omega) (by omega) (by omega) (by omega)]; exact c7, by rw [nx (by omega) (by omega) (by omega) (by omega) (by omega) (by omega) (by omega) (by omega)]; exact c8, x14, x15⟩
    rcases SM_system im1.1 im1.2.2.1 with ⟨e', M2, y1, -⟩ | ⟨Q2, M2, y1, y2, y3, y4, y5, y6, y7, y8⟩
    · rw [x1] at y1
      cases y1
    · rw [x1] at y1
      cases y1
      have im2 : IM M2 Q' 0 none 0 A 0 B 0 (-1) := ⟨y4, ⟨y8, Nat.zero_le _, fun i hi => absurd hi (Nat.not_lt_zero i)⟩, ⟨y7, Nat.zero_le _, fun i hi => absurd hi (Nat.not_lt_zero i)⟩, y5, y6⟩
      exact ⟨_, M1, M2, x2, y2, Q', 0, none, 0, A, 0, B, ar, d, 17 - a, _, _, ic1.md y3 (by decide) (by decide), im2, fun j hj => absurd hj (Nat.not_lt_zero j), (iz.cf cf).md y3⟩
theorem st_at : St (fun M => f11_at M 1) (fun M => f12_at M 86) := fun M ⟨Q, o, nw, n, A, L, B, ar, d, a, f1, f2, ic, im, aw, iz⟩ => by
  obtain ⟨c1, c2, c3, c4, c5, c6, c7, c8, c9, c10⟩ := id ic
  have wq := c4.2.2.2
  have n12 : n ≤ 12 := im.2.1.2.1
  have any : ∀ {M1 : MM} {nw' : NW} {n' : Nat} {A' : Nat → NW × Nat} {g1 g2 : Int32}, SmR AtI [2] M M1 → HereC M1 nw' → WN Q.1 nw' → ActC M1 n' A' → mI M1 22 2 = g1 → mI M1 22 3 = g2 → mI M1 2 2 = 0 → mI M1 26 0 = nI 40 → IC M1 Q o nw' n' A' 0 B ar d a g1 g2 := fun {M1 nw' n' A' g1 g2} s hh hw ac q1 q2 q3 q4 => by
    have w1 := c1.1.smR s
    have ii : ∀ x, x ∉ AtI → mI M1 x = mI M x := s.2.2.2.2.1
    have jj : ∀ x, x ∉ [2] → mJ M1 x = mJ M x := s.2.2.2.2.2
    have e1 : mI M1 1 = mI M 1 := ii 1 (by decide)
    have r1 : ∀ k, mR M1 1 k = mR M 1 k := fun k => s.1 1 k (fun z => absurd z.1 (by decide))
    have na1 : NaC M1 a Q := c4.cr (fun x hx => ii x (by revert x; decide)) (fun x hx => jj x (by revert x; decide)) r1
    refine ⟨⟨w1, wq.1, c1.2.2.1, ⟨a, na1.1, na1.2.1, na1.2.2.1.1⟩, by rw [e1]; exact c1.2.2.2.2.1, hh, hw⟩, ?_, c3.smR s (by rw [e1]) (by decide), na1, ac, ⟨q3, Nat.zero_le _, fun i hi => absurd hi (Nat.not_lt_zero i)⟩, q4, by rw [ii 43 (by decide)]; exact c8, q1, q2⟩
    unfold CostC at *
    rw [e1, jj 34 (by decide), jj 36 (by decide), jj 41 (by decide)]
    exact c2
  rcases S11_at c1 c4.1 c4.2.2.1 wq c6 c5 aw c7 with ⟨e, M1, x1, x2, x3, x4, x5, x6, x7, x8⟩ | ⟨p, l, M1, x1, x2, x3, x4, x5, x6, x7, x8, x9⟩
  · have cf := x3.cf (by decide) (by decide) d
    have im1 := im.cl (c1.1.smR x3) cf.1
    have ic1 := any x3 x4 c1.2.2.2.2.2.2 x5 x6.1 x6.2 x7 x8
    rcases SM_at im1.1 im1.2.2.1 im1.2.1 aw with ⟨e', M2, y1, y2, y3, y4, y5, y6, y7, y8⟩ | ⟨p, l, M2, y1, -⟩
    · rw [x1] at y1
      cases y1
      exact ⟨-1, M1, M2, x2, y2, Q, o, nw, n, A, 0, B, ar, d, a, _, _, ic1.md y3 (by decide) (by decide), ⟨y4, y5, ⟨y8, Nat.zero_le _, fun i hi => absurd hi (Nat.not_lt_zero i)⟩, y6, y7⟩, aw, (iz.cf cf).md y3⟩
    · rw [x1] at y1
      cases y1
  · have cf := x3.cf (by decide) (by decide) d
    have im1 := im.cl (c1.1.smR x3) cf.1
    rcases SM_at im1.1 im1.2.2.1 im1.2.1 aw with ⟨e', M2, y1, -⟩ | ⟨p', l', M2, y1, y2, y3, y4, y5, y6, y7, y8⟩
    · rw [x1] at y1
      cases y1
    · rw [x1] at y1
      cases y1
      have ic1 := any x3 x4 y4.1.1.2.2.2.2.2.1 x5 x6 x7 x8 x9
      exact ⟨_, M1, M2, x2, y2, Q, o, _, _, _, 0, B, ar, d, a, _, _, ic1.md y3 (by decide) (by decide), ⟨y4, y5, ⟨y8, Nat.zero_le _, fun i hi => absurd hi (Nat.not_lt_zero i)⟩, y6, y7⟩, aw.kp n12 c1.2.2.2.2.2.2 c1.2.2.1, (iz.cf cf).md y3⟩
end STEPB
