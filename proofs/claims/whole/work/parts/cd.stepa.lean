/-! EVERY CALL: what changes the state -/
section STEPA
variable {Q : QG} {o : Nat} {nw : NW} {n : Nat} {A : Nat → NW × Nat} {L : Nat} {B : Nat → Nat} {ar : Nat → Nat} {d a : Nat} {f1 f2 : Int32} {P : PG}
theorem CostC.off {M M' : MM} {P' : PG} {o' : Nat} (h : CostC M P o) (e : mI M' 1 13 = 0) (hj : ∀ x, x ∈ [34, 36, 41] → mJ M' x = mJ M x) : CostC M' P' o' := by
  obtain ⟨-, ⟨E, R, a1, a2, a3, -⟩, b⟩ := h
  refine ⟨.inl e, ⟨E, R, by rw [hj 34 (by decide)]; exact a1, by rw [hj 36 (by decide)]; exact a2, a3, fun z => by rw [e] at z; exact absurd z (by decide)⟩, ?_⟩
  rw [hj 41 (by decide)]
  exact b
theorem LY.gen {M M' : MM} (h : LY M ar d) (w : Wl M') (hz : mz M' = mz M) (hk : mK M' = mK M) (hr : ∀ x k, x ≠ 22 → x ≠ 1 → mR M' x k = mR M x k) (e61 : mI M' 61 = mI M 61) : LY M' ar d := by
  obtain ⟨⟨g1, g2, g3, g4, g5, g6, g7, g8⟩, h2, h3⟩ := h
  have n22 : ∀ b, b ∈ dI ++ dL → b ≠ 22 ∧ b ≠ 1 := by decide
  exact ⟨⟨w, by rw [hz]; exact g2, fun b hb => by rw [hr b 0 (n22 b hb).1 (n22 b hb).2]; exact g3 b hb, g4, fun b hb => by rw [hz]; exact g5 b hb, fun b hb => by rw [hk]; exact g6 b hb, fun b hb => by rw [hk]; exact g7 b hb, by rw [hr 61 5 (by decide) (by decide), hr 61 6 (by decide) (by decide)]; exact g8⟩, by rw [e61]; exact h2, h3⟩
theorem MacC.off {M M' : MM} {P' : PG} {o' : Nat} (h : MacC M P o ar d) (w : Wl M') (hz : mz M' = mz M) (hk : mK M' = mK M) (hr : ∀ x k, x ≠ 22 → x ≠ 1 → mR M' x k = mR M x k) (e61 : mI M' 61 = mI M 61) (e : mI M' 1 14 = 0) : MacC M' P' o' ar d := ⟨h.1.gen w hz hk hr e61, .inl e⟩
theorem IC.mk2 {M M' : MM} {o' : Nat} {nw' : NW} {n' : Nat} {A' : Nat → NW × Nat} {ar' : Nat → Nat} {d' : Nat} (h : IC M Q o nw n A L B ar d a f1 f2) {Is Js : List Nat} (s : Sm Is Js M M') (hi : avd [2, 3, 22, 26, 43, 4, 10, 12, 13, 19, 21] Is = true) (hj : crJ Js = true) (h1 : CoC M' Q.1 o' nw') (h2 : CostC M' Q.1 o') (h3 : MacC M' Q.1 o' ar' d') (h4 : ActC M' n' A') : IC M' Q o' nw' n' A' L B ar' d' a f1 f2 := by
  obtain ⟨-, -, -, a4, -, a6, a7, a8, a9, a10⟩ := h
  refine ⟨h1, h2, h3, a4.cr (fun x hx => s.i x (avd_n hi (List.mem_append_right [2, 3, 22, 26, 43] hx))) (fun x hx => s.j x (avd_n hj hx)) (fun k => by rw [s.r]), h4, ?_, by rw [s.i 26 (avd_n hi (by decide))]; exact a7, by rw [s.i 43 (avd_n hi (by decide))]; exact a8, by rw [s.i 22 (avd_n hi (by decide))]; exact a9, by rw [s.i 22 (avd_n hi (by decide))]; exact a10⟩
  unfold TpC at *
  rw [s.i 2 (avd_n hi (by decide)), s.i 3 (avd_n hi (by decide))]
  exact a6
theorem IM.mk2 {M M' : MM} {o' : Nat} {nw' : NW} {n' : Nat} {A' : Nat → NW × Nat} (h : IM M Q o nw n A L B f1 f2) {Is Js : List Nat} (s : Sm Is Js M M') (hi : avd [87, 88, 89, 90, 91] Is = true) (hf : ∀ j, j = 7 ∨ j = 13 ∨ j = 14 → mI M' 86 j = mI M 86 j) (h1 : AlM M' Q.1 o' nw') (h2 : ActM M' n' A') : IM M' Q o' nw' n' A' L B f1 f2 := by
  obtain ⟨⟨-, a4, a5, a6⟩, b, c, d1, d2⟩ := h
  refine ⟨⟨h1, a4, a5.sm s (List.all_eq_true.mpr fun x hx => List.all_eq_true.mp hi x (by revert x; decide)), a6⟩, h2, ?_, (hf 13 (by omega)).trans d1, (hf 14 (by omega)).trans d2⟩
  unfold TaM at *
  rw [hf 7 (by omega), s.i 91 (avd_n hi (by decide))]
  exact c
theorem st_undo : St (fun M => f11_undo M 1) (fun M => f12_undo M 86) := fun M ⟨Q, o, nw, n, A, L, B, ar, d, a, f1, f2, ic, im, aw, iz⟩ => by
  cases n with
  | zero => exact ⟨_, M, _, S11_undo0 ic.1 ic.2.2.2.2.1, SM_undo0 im.1.1 im.2.1, iq0 ic im aw iz⟩
  | succ n =>
    obtain ⟨M1, a1, a2, a3, a4, a5, a6, a7⟩ := S11_undo ic.1 ic.2.2.2.2.1 aw
    have ic1 : IC M1 Q (A n).2 (A n).1 n A L B ar d a f1 f2 := ic.mk2 a2 (by decide) (by decide) a4 (ic.2.1.off a6 (fun x hx => a2.j x (by revert x; decide))) (ic.2.2.1.off a4.1 a2.z a2.k (fun x k _ _ => by rw [a2.r]) (a2.i 61 (by decide)) a7) a5
    have cf := a2.cf (by decide) (by decide) d
    have im1 := im.cl a4.1 cf.1
    obtain ⟨M2, b1, b2, b3, b4, b5⟩ := SM_undo im1.1.1 im1.2.1 aw
    exact ⟨_, M1, M2, a1, b1, Q, (A n).2, (A n).1, n, A, L, B, ar, d, a, f1, f2, ic1.md b2 (by decide) (by decide), im1.mk2 b2 (by decide) (fun j hj => b3 j (by omega) (by omega) (by omega) (by omega) (by omega) (by omega) (by omega) (by omega)) b4 b5, fun j hj => aw j (by omega), (iz.cf cf).md b2⟩
theorem st_out (x y : Int32) : St (fun M => f11_out M 1 x y) (fun M => f12_out M 86 x y) := fun M ⟨Q, o, nw, n, A, L, B, ar, d, a, f1, f2, ic, im, aw, iz⟩ => by
  have n12 : n ≤ 12 := im.2.1.2.1
  obtain ⟨M1, r, a1, a2, a3⟩ := S11_out ic.1 ic.2.2.2.2.1 aw x y
  cases c : ibx (pR Q.1) x with
  | false =>
    obtain ⟨e1, e2⟩ := a2 c
    obtain ⟨M2, r', b1, b2, b3⟩ := SM_out im.1.1 im.2.1 aw x y
    obtain ⟨e1', e2'⟩ := b2 c
    rw [e1, e2] at a1
    rw [e1', e2'] at b1
    exact ⟨0, M, _, a1, b1, iq0 ic im aw iz⟩
  | true =>
    obtain ⟨k, hk, ek⟩ := ibx_out c (by have := ic.1.2.1.2.2.1; omega)
    obtain ⟨p1, p2⟩ := a3 k hk ek
    by_cases e : bI (o.testBit k) = y
    · obtain ⟨e1, e2⟩ := p1 e
      obtain ⟨M2, r', b1, b2, b3⟩ := SM_out im.1.1 im.2.1 aw x y
      obtain ⟨e1', e2'⟩ := (b3 k hk ek).1 e
      rw [e1, e2] at a1
      rw [e1', e2'] at b1
      exact ⟨0, M, _, a1, b1, iq0 ic im aw iz⟩
    · obtain ⟨e1, s1, q1, q2, q3, q4, q5⟩ := p2 e
      have cf := s1.cf (by decide) (by decide) d
      have im1 := im.cl q2.1 cf.1
      have ic1 : IC M1 Q (o ^^^ 2 ^ k) nw (kpN n) (kpA n A (nw, o)) L B ar d a f1 f2 := ic.mk2 s1 (by decide) (by decide) q2 (ic.2.1.off q4 (fun x hx => s1.j x (by revert x; decide))) (ic.2.2.1.off q2.1 s1.z s1.k (fun x k _ _ => by rw [s1.r]) (s1.i 61 (by decide)) q5) q3
      obtain ⟨M2, r', b1, b2, b3⟩ := SM_out im1.1.1 im1.2.1 aw x y
      obtain ⟨e1', s2, t1, t2, t3⟩ := (b3 k hk ek).2 e
      rw [e1] at a1
      rw [e1'] at b1
      exact ⟨1, M1, M2, a1, b1, Q, _, _, _, _, L, B, ar, d, a, f1, f2, ic1.md s2 (by decide) (by decide), im1.mk2 s2 (by decide) (fun j hj => t1 j (by omega) (by omega) (by omega) (by omega) (by omega)) t2 t3, aw.kp n12 ic.1.2.2.2.2.2.2 ic.1.2.2.1, (iz.cf cf).md s2⟩
theorem st_step (x : Int32) : St (fun M => f11_step M 1 x) (fun M => f12_step M 86 x) := fun M ⟨Q, o, nw, n, A, L, B, ar, d, a, f1, f2, ic, im, aw, iz⟩ => by
  have n12 : n ≤ 12 := im.2.1.2.1
  obtain ⟨M1, r, a1, a2, a3⟩ := S11_step ic.1 ic.2.2.2.2.1 aw x
  cases c : ibx (pR Q.1) x with
  | false =>
    obtain ⟨e1, e2⟩ := a2 c
    obtain ⟨M2, r', b1, b2, b3⟩ := SM_step im.1.1 im.2.1 aw x
    obtain ⟨e1', e2'⟩ := b2 c
    rw [e1, e2] at a1
    rw [e1', e2'] at b1
    exact ⟨-1, M, _, a1, b1, iq0 ic im aw iz⟩
  | true =>
    obtain ⟨k, hk, ek⟩ := ibx_out c (by have := ic.1.2.1.2.2.1; omega)
    obtain ⟨p1, p2⟩ := a3 k hk ek
    cases e : canB Q.1 o nw k with
    | false =>
      obtain ⟨e1, e2⟩ := p1 e
      obtain ⟨M2, r', b1, b2, b3⟩ := SM_step im.1.1 im.2.1 aw x
      obtain ⟨e1', e2'⟩ := (b3 k hk ek).1 e
      rw [e1, e2] at a1
      rw [e1', e2'] at b1
      exact ⟨-1, M, _, a1, b1, iq0 ic im aw iz⟩
    | true =>
      obtain ⟨e1, s1, q2, q3⟩ := p2 e
      have cf := s1.cf (by decide) (by decide) d
      have im1 := im.cl q2.1 cf.1
      have ic1 : IC M1 Q o (stpN Q.1 k nw) (kpN n) (kpA n A (nw, o)) L B ar d a f1 f2 := ic.mk2 s1 (by decide) (by decide) q2 (ic.2.1.sm s1 (by rw [s1.i 1 (by decide)]) (by decide)) (ic.2.2.1.sm s1 (by rw [s1.i 1 (by decide)]) (by decide)) q3
      obtain ⟨M2, r', b1, b2, b3⟩ := SM_step im1.1.1 im1.2.1 aw x
      obtain ⟨e1', s2, t1, t2, t3⟩ := (b3 k hk ek).2 e
      rw [e1] at a1
      rw [e1'] at b1
      exact ⟨_, M1, M2, a1, b1, Q, _, _, _, _, L, B, ar, d, a, f1, f2, ic1.md s2 (by decide) (by decide), im1.mk2 s2 (by decide) (fun j hj => t1 j (by omega) (by omega) (by omega) (by omega)) t2 t3, aw.kp n12 ic.1.2.2.2.2.2.2 ic.1.2.2.1, (iz.cf cf).md s2⟩
theorem st_feed (v1 v2 v3 v4 v5 : Int32) : St (fun M => f11_feed M 1 v1 v2 v3 v4 v5) (fun M => f12_feed M 86 v1 v2 v3 v4 v5) := fun M ⟨Q, o, nw, n, A, L, B, ar, d, a, f1, f2, ic, im, aw, iz⟩ => by
  rcases S11_feed ic.1.1 ic.2.2.2.2.2.1 v1 v2 v3 v4 v5 with ⟨l, a1⟩ | ⟨l, M1, a1, s1, tp⟩
  · rcases SM_feed ic.1.1 im.2.2.1 v1 v2 v3 v4 v5 with ⟨l', b1⟩ | ⟨l', -⟩
    · exact ⟨-1, M, _, a1, b1, iq0 ic im aw iz⟩
    · omega
  · have cf := s1.cf (by decide) (by decide) d
    have w1 := ic.1.1.sm s1
    have im1 := im.cl w1 cf.1
    have e1 : mI M1 1 = mI M 1 := s1.i 1 (by decide)
    rcases SM_feed w1 im1.2.2.1 v1 v2 v3 v4 v5 with ⟨l', -⟩ | ⟨l', M2, b1, s2, t1, t2⟩
    · omega
    · obtain ⟨c1, c2, c3, c4, c5, c6, c7, c8, c9, c10⟩ := ic
      have ic1 : IC M1 Q o nw n A (L + 4 + 4 + 4 + 4 + 4) (fd20 B L v1 v2 v3 v4 v5) ar d a f1 f2 := ⟨c1.sm s1 (by rw [e1]) (by decide), c2.sm s1 (by rw [e1]) (by decide), c3.sm s1 (by rw [e1]) (by decide), c4.cr (fun x hx => s1.i x (by revert x; decide)) (fun x hx => s1.j x (by revert x; decide)) (fun k => by rw [s1.r]), c5.sm s1 (by decide), tp, by rw [s1.i 26 (by decide)]; exact c7, by rw [s1.i 43 (by decide)]; exact c8, by rw [s1.i 22 (by decide)]; exact c9, by rw [s1.i 22 (by decide)]; exact c10⟩
      obtain ⟨⟨m1, m2, m3, m4⟩, m5, m6, m7, m8⟩ := im1
      have im2 : IM M2 Q o nw n A (L + 4 + 4 + 4 + 4 + 4) (fd20 B L v1 v2 v3 v4 v5) f1 f2 := ⟨⟨m1.now s2 (by decide) (by decide) (fun j hj => t1 j (by omega) (by omega)) (m1.1.2.2.2.2.1.sm s2 (fun j h1 h2 => t1 j (by omega) (by omega)) (by decide)) m1.1.2.2.2.2.2.1, m2, m3.sm s2 (by decide), m4⟩, m5.sm s2 (t1 23 (by decide) (by decide)) (by decide), t2, by rw [t1 13 (by decide) (by decide)]; exact m7, by rw [t1 14 (by decide) (by decide)]; exact m8⟩
      exact ⟨_, M1, M2, a1, b1, Q, o, nw, n, A, _, _, ar, d, a, f1, f2, ic1.md s2 (by decide) (by decide), im2, aw, (iz.cf cf).md s2⟩
theorem st_end (v : Int32) : St (fun M => f11_end M 1 v) (fun M => f12_end M 86 v) := fun M ⟨Q, o, nw, n, A, L, B, ar, d, a, f1, f2, ic, im, aw, iz⟩ => by
  rcases S11_end ic.1.1 ic.2.2.2.2.2.1 v with ⟨l, a1⟩ | ⟨k, ek, kL, a1, s1, tp⟩
  · rcases SM_end ic.1.1 im.2.2.1 v with ⟨l', b1⟩ | ⟨k', ek', kL', -⟩
    · exact ⟨-1, M, _, a1, b1, iq0 ic im aw iz⟩
    · have := im.2.2.1.2.1
      exact absurd ⟨by rw [ek']; exact nI_le (Nat.zero_le k') (by omega), by rw [ek']; exact nI_le kL' (by omega)⟩ l
  · obtain ⟨M1, hM1⟩ : ∃ M1, M1 = sI M 2 2 (nI k) := ⟨_, rfl⟩
    rw [← hM1] at a1 s1 tp
    have cf := s1.cf (by decide) (by decide) d
    have w1 := ic.1.1.sm s1
    have im1 := im.cl w1 cf.1
    have e1 : mI M1 1 = mI M 1 := s1.i 1 (by decide)
    have L8 := im.2.2.1.2.1
    rcases SM_end w1 im1.2.2.1 v with ⟨l', -⟩ | ⟨k', ek', kL', b1, s2, t1, t2⟩
    · exact absurd ⟨by rw [ek]; exact nI_le (Nat.zero_le k) (by omega), by rw [ek]; exact nI_le kL (by omega)⟩ l'
    · have ekk : k' = k := by
        rw [ek] at ek'
        exact ((nI_eq (by omega) (by omega)).mp ek').symm
      rw [ekk] at b1 s2 t1 t2
      obtain ⟨M2, hM2⟩ : ∃ M2, M2 = sI (sI M1 86 0 0) 86 7 (nI k) := ⟨_, rfl⟩
      rw [← hM2] at b1 s2 t1 t2
      obtain ⟨c1, c2, c3, c4, c5, c6, c7, c8, c9, c10⟩ := ic
      have ic1 : IC M1 Q o nw n A k B ar d a f1 f2 := ⟨c1.sm s1 (by rw [e1]) (by decide), c2.sm s1 (by rw [e1]) (by decide), c3.sm s1 (by rw [e1]) (by decide), c4.cr (fun x hx => s1.i x (by revert x; decide)) (fun x hx => s1.j x (by revert x; decide)) (fun k => by rw [s1.r]), c5.sm s1 (by decide), tp, by rw [s1.i 26 (by decide)]; exact c7, by rw [s1.i 43 (by decide)]; exact c8, by rw [s1.i 22 (by decide)]; exact c9, by rw [s1.i 22 (by decide)]; exact c10⟩
      obtain ⟨⟨m1, m2, m3, m4⟩, m5, m6, m7, m8⟩ := im1
      have im2 : IM M2 Q o nw n A k B f1 f2 := ⟨⟨m1.now s2 (by decide) (by decide) (fun j hj => t1 j (by omega) (by omega)) (m1.1.2.2.2.2.1.sm s2 (fun j h1 h2 => t1 j (by omega) (by omega)) (by decide)) m1.1.2.2.2.2.2.1, m2, m3.sm s2 (by decide), m4⟩, m5.sm s2 (t1 23 (by decide) (by decide)) (by decide), t2, by rw [t1 13 (by decide) (by decide)]; exact m7, by rw [t1 14 (by decide) (by decide)]; exact m8⟩
      exact ⟨_, M1, M2, a1, b1, Q, o, nw, n, A, _, _, ar, d, a, f1, f2, ic1.md s2 (by decide) (by decide), im2, aw, (iz.cf cf).md s2⟩
end STEPA
