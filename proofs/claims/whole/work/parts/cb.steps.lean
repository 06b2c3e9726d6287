/-! EVERY CALL: both answer alike, and what holds is kept: questions -/
def St {α : Type} (f g : MM → Option (α × MM)) : Prop := ∀ M, Inv M → ∃ r M1 M2, f M = some (r, M1) ∧ g M1 = some (r, M2) ∧ Inv M2
section STEPS
variable {Q : QG} {o : Nat} {nw : NW} {n : Nat} {A : Nat → NW × Nat} {L : Nat} {B : Nat → Nat} {ar : Nat → Nat} {d a : Nat} {f1 f2 : Int32}
theorem iq1 {M M1 : MM} (ic : IC M Q o nw n A L B ar d a f1 f2) (im : IM M Q o nw n A L B f1 f2) (iz : IZ M d) {Is Js : List Nat} (s : Sm Is Js M M1) (h : (lo86 Is && lo86 Js && (crI Is && crJ Js && okM Is)) = true) (h43 : mI M1 43 0 = nI 140) (h14 : mI M1 1 14 = mI M 1 14) (c1 : CoC M1 Q.1 o nw) (c2 : CostC M1 Q.1 o) : IC M1 Q o nw n A L B ar d a f1 f2 ∧ IM M1 Q o nw n A L B f1 f2 ∧ IZ M1 d := by
  rw [Bool.and_eq_true, Bool.and_eq_true, Bool.and_eq_true, Bool.and_eq_true] at h
  obtain ⟨⟨l1, l2⟩, ⟨l3, l4⟩, l5⟩ := h
  have cf := s.cf l1 l2 d
  exact ⟨ic.cr (s.cr l3 l4 (h43.trans ic.2.2.2.2.2.2.2.1.symm)) c1 c2 (ic.2.2.1.sm s h14 l5), im.cl c1.1 cf.1, iz.cf cf⟩
theorem iq1H {M M1 : MM} (ic : IC M Q o nw n A L B ar d a f1 f2) (im : IM M Q o nw n A L B f1 f2) (iz : IZ M d) {Is Js : List Nat} (s : SmH Is Js M M1) (h : (lo86 Is && lo86 Js && (crI Is && crJ Js && okM Is)) = true) (h43 : mI M1 43 0 = nI 140) (h14 : mI M1 1 14 = mI M 1 14) (c1 : CoC M1 Q.1 o nw) (c2 : CostC M1 Q.1 o) : IC M1 Q o nw n A L B ar d a f1 f2 ∧ IM M1 Q o nw n A L B f1 f2 ∧ IZ M1 d := by
  rw [Bool.and_eq_true, Bool.and_eq_true, Bool.and_eq_true, Bool.and_eq_true] at h
  obtain ⟨⟨l1, l2⟩, ⟨l3, l4⟩, l5⟩ := h
  have cf := s.cf l1 l2 d
  exact ⟨ic.cr (s.cr l3 l4 (h43.trans ic.2.2.2.2.2.2.2.1.symm)) c1 c2 (ic.2.2.1.smH s h14 l5), im.cl c1.1 cf.1, iz.cf cf⟩
theorem iq1M {M M1 : MM} (ic : IC M Q o nw n A L B ar d a f1 f2) (im : IM M Q o nw n A L B f1 f2) (iz : IZ M d) (r : McR M d Q.1 o nw M1) : ∃ ar' d', IC M1 Q o nw n A L B ar' d' a f1 f2 ∧ IM M1 Q o nw n A L B f1 f2 ∧ IZ M1 d' := by
  obtain ⟨ar', d', fr, c1, c2, c3⟩ := r
  exact ⟨ar', d', ic.cr fr.cr c1 c2 c3, im.cl c1.1 fr.cf.1, iz.cf fr.cf⟩
theorem iq2 {M1 M2 : MM} (ic : IC M1 Q o nw n A L B ar d a f1 f2) (im : IM M1 Q o nw n A L B f1 f2) (aw : ActW Q.1 n A) (iz : IZ M1 d) {Is Js : List Nat} (s : Sm Is Js M1 M2) (h : (hiM Is && hiM Js && (avd [87, 88, 89, 90, 91, 94] Is && avd [111, 112, 113] Is)) = true) (hf : ∀ j, j = 7 ∨ j = 13 ∨ j = 14 ∨ j = 23 ∨ j = 47 ∨ j = 48 ∨ j = 49 → mI M2 86 j = mI M1 86 j) (h1 : CoM M2 Q.1 o nw) (h2 : ToldOK M2 Q.1 o) : Inv M2 := by
  rw [Bool.and_eq_true, Bool.and_eq_true, Bool.and_eq_true] at h
  obtain ⟨⟨l1, l2⟩, l3, l4⟩ := h
  exact ⟨Q, o, nw, n, A, L, B, ar, d, a, f1, f2, ic.md s l1 l2, im.q s l3 (fun j hj => hf j (by omega)) h1 h2 (im.1.1.2.2.sm s (hf 47 (by omega)) (hf 48 (by omega)) (hf 49 (by omega)) l4), aw, iz.md s⟩
theorem iq2M {M1 M2 : MM} (ic : IC M1 Q o nw n A L B ar d a f1 f2) (im : IM M1 Q o nw n A L B f1 f2) (aw : ActW Q.1 n A) (iz : IZ M1 d) {Is Js : List Nat} (s : Sm Is Js M1 M2) (h : (hiM Is && hiM Js && avd [87, 88, 89, 90, 91, 94] Is) = true) (hf : ∀ j, j ≠ 0 → j ≠ 30 → j ≠ 31 → j ≠ 47 → j ≠ 48 → j ≠ 49 → j ≠ 52 → mI M2 86 j = mI M1 86 j) (h1 : CoM M2 Q.1 o nw) (h2 : ToldOK M2 Q.1 o) (h3 : MaM M2 Q.1 o) : Inv M2 := by
  rw [Bool.and_eq_true, Bool.and_eq_true] at h
  obtain ⟨⟨l1, l2⟩, l3⟩ := h
  exact ⟨Q, o, nw, n, A, L, B, ar, d, a, f1, f2, ic.md s l1 l2, im.q s l3 (fun j hj => hf j (by omega) (by omega) (by omega) (by omega) (by omega) (by omega) (by omega)) h1 h2 h3, aw, iz.md s⟩
/-- the reference tells without more than its own mark -/
theorem iq0 {M : MM} (ic : IC M Q o nw n A L B ar d a f1 f2) (im : IM M Q o nw n A L B f1 f2) (aw : ActW Q.1 n A) (iz : IZ M d) : Inv (sI M 86 0 0) := by
  have s : Sm [86] [] M (sI M 86 0 0) := th_sm
  exact ⟨Q, o, nw, n, A, L, B, ar, d, a, f1, f2, ic.md s (by decide) (by decide), im.th 0, aw, iz.md s⟩
theorem st_cost : St (fun M => f11_cost M 1) (fun M => f12_cost M 86) := fun M ⟨Q, o, nw, n, A, L, B, ar, d, a, f1, f2, ic, im, aw, iz⟩ => by
  obtain ⟨v, hv⟩ := costN_ex ic.1.2.1 ic.1.2.2.2.2.2.2 o (okT_g ic.1.2.1)
  obtain ⟨M1, a1, a2, a3, a4, a5⟩ := S11_cost2 ic.1 ic.2.1 hv
  obtain ⟨ic1, im1, iz1⟩ := iq1 ic im iz a2 (by decide) (by rw [a2.i 43 (by decide)]; exact ic.2.2.2.2.2.2.2.1) (a3 14 (by decide)) a4 a5
  obtain ⟨M2, b1, b2, b3, b4, b5, b6⟩ := SM_cost2 im1.1.1.1 im1.1.1.2.1 hv
  exact ⟨_, M1, M2, a1, b1, iq2 ic1 im1 aw iz1 b2 (by decide) (fun j hj => b3 j (by omega) (by omega) (by omega)) b4 b5⟩
theorem st_comes (x y : Int32) : St (fun M => f11_comes M 1 x y) (fun M => f12_comes M 86 x y) := fun M ⟨Q, o, nw, n, A, L, B, ar, d, a, f1, f2, ic, im, aw, iz⟩ => by
  obtain ⟨M1, r, a1, a2, a3, a4, a5, a6⟩ := S11_comes ic.1 ic.2.1 x y
  obtain ⟨ic1, im1, iz1⟩ := iq1 ic im iz a2 (by decide) (by rw [a2.i 43 (by decide)]; exact ic.2.2.2.2.2.2.2.1) (by rw [a3]) a4 a5
  obtain ⟨M2, r', b1, b2, b3, b4, b5, b6⟩ := SM_comes im1.1.1.1 im1.1.1.2.1 x y
  have e : r = r' := comes_eq ic.1.2.1 ic.1.2.2.2.2.2.2 a6 b6
  rw [← e] at b1
  exact ⟨r, M1, M2, a1, b1, iq2 ic1 im1 aw iz1 b2 (by decide) (fun j hj => b3 j (by omega) (by omega)) b4 b5⟩
theorem st_matters (x : Int32) : St (fun M => f11_matters M 1 x) (fun M => f12_matters M 86 x) := fun M ⟨Q, o, nw, n, A, L, B, ar, d, a, f1, f2, ic, im, aw, iz⟩ => by
  obtain ⟨M1, r, a1, a2, a3, a4, a5, a6⟩ := S11_matters ic.1 ic.2.1 x
  obtain ⟨ic1, im1, iz1⟩ := iq1 ic im iz a2 (by decide) (by rw [a2.i 43 (by decide)]; exact ic.2.2.2.2.2.2.2.1) (a3 14 (by decide)) a4 a5
  obtain ⟨M2, r', b1, b2, b3, b4, b5, b6⟩ := SM_matters im1.1.1.1 im1.1.1.2.1 x
  have e : r = r' := mtA_eq ic.1.2.1 ic.1.2.2.2.2.2.2 a6 b6
  rw [← e] at b1
  exact ⟨r, M1, M2, a1, b1, iq2 ic1 im1 aw iz1 b2 (by decide) (fun j hj => b3 j (by omega) (by omega) (by omega)) b4 b5⟩
theorem st_stuck : St (fun M => f11_stuck M 1) (fun M => f12_stuck M 86) := fun M ⟨Q, o, nw, n, A, L, B, ar, d, a, f1, f2, ic, im, aw, iz⟩ => by
  obtain ⟨M1, r, a1, a2, a3, a4, a5, a6⟩ := S11_stuck ic.1 ic.2.1
  obtain ⟨ic1, im1, iz1⟩ := iq1 ic im iz a2 (by decide) (by rw [a2.i 43 (by decide)]; exact ic.2.2.2.2.2.2.2.1) (by rw [a3]) a4 a5
  obtain ⟨M2, r', b1, b2, b3, b4, b5, b6⟩ := SM_stuck im1.1.1.1 im1.1.1.2.1
  have e : r = r' := stA_eq ic.1.2.1 ic.1.2.2.2.2.2.2 a6 b6
  rw [← e] at b1
  exact ⟨r, M1, M2, a1, b1, iq2 ic1 im1 aw iz1 b2 (by decide) (fun j hj => b3 j (by omega) (by omega)) b4 b5⟩
theorem st_way (x : Int32) : St (fun M => f11_way M 1 x) (fun M => f12_way M 86 x) := fun M ⟨Q, o, nw, n, A, L, B, ar, d, a, f1, f2, ic, im, aw, iz⟩ => by
  obtain ⟨r, ⟨M1, a1, a2, a3, h43, a4, a5⟩, hm⟩ := way_both ic.1 ic.2.1 ic.2.2.2.2.2.2.2.1 x
  obtain ⟨ic1, im1, iz1⟩ := iq1 ic im iz a2 (by decide) h43 (a3 14 (by decide)) a4 a5
  obtain ⟨M2, b1, b2, b3, b4, b5⟩ := hm M1 im1.1.1.1 im1.1.1.2.1
  exact ⟨r, M1, M2, a1, b1, iq2 ic1 im1 aw iz1 b2 (by decide) (fun j hj => b3 j (by omega) (by omega) (by omega) (by omega)) b4 b5⟩
theorem st_height : St (fun M => f11_height M 1) (fun M => f12_height M 86) := fun M ⟨Q, o, nw, n, A, L, B, ar, d, a, f1, f2, ic, im, aw, iz⟩ => by
  obtain ⟨cn, hcn⟩ := CnOK_ex ic.1.2.1 o
  obtain ⟨c, cR, cC, cM⟩ := rise_both (cn := cn) (o := o) ic.1.2.1 (by have := ic.1.2.2.1; omega)
  obtain ⟨M1, r, a1, a2, a3, a4, a5, a6, a7⟩ := S11_height ic.1 ic.2.1 hcn cR cC
  obtain ⟨ic1, im1, iz1⟩ := iq1H ic im iz a2 (by decide) (by rw [a2.i 43 (by decide)]; exact ic.2.2.2.2.2.2.2.1) (a3 14 (by decide)) a4 a5
  obtain ⟨M2, r', b1, b2, b3, b4, b5, b6, b7⟩ := SM_height im1.1.1.1 im1.1.1.2.1 hcn cR cM
  have e : r = r' := by
    cases nw with
    | none => rw [a6 rfl, b6 rfl]
    | some q => exact hgA_eq (a7 _ _ _ rfl) (b7 _ _ _ rfl)
  rw [← e] at b1
  exact ⟨r, M1, M2, a1, b1, iq2 ic1 im1 aw iz1 b2 (by decide) (fun j hj => b3 j (by omega) (by omega) (by omega)) b4 b5⟩
theorem WN.s6 {P : PG} (hp : WP P) {q : Nat × Nat × (Nat → Nat)} (h : WN P (some q)) : ∀ i, i < q.2.1 → q.2.2 i < 6 := fun i hi => Nat.lt_of_lt_of_le (h.2.2 i hi) hp.2.1
theorem st_endless : St (fun M => f11_endless M 1) (fun M => f12_endless M 86) := fun M ⟨Q, o, nw, n, A, L, B, ar, d, a, f1, f2, ic, im, aw, iz⟩ => by
  obtain ⟨cn, hcn⟩ := CnOK_ex ic.1.2.1 o
  obtain ⟨M1, r, a1, a2, a3, a4, a5, a6, a7⟩ := S11_endless ic.1 ic.2.1 hcn
  obtain ⟨ic1, im1, iz1⟩ := iq1H ic im iz a2 (by decide) (by rw [a2.i 43 (by decide)]; exact ic.2.2.2.2.2.2.2.1) (a3 14 (by decide)) a4 a5
  obtain ⟨M2, r', b1, b2, b3, b4, b5, b6, b7⟩ := SM_endless im1.1.1.1 im1.1.1.2.1 hcn
  have e : r = r' := by
    cases nw with
    | none => rw [a6 rfl, b6 rfl]
    | some q =>
      obtain ⟨l, b, l1, e1, e2⟩ := a7 _ _ _ rfl
      obtain ⟨l', b', l1', e1', e2'⟩ := b7 _ _ _ rfl
      rw [e1, e1', enA_eq (hp := ic.1.2.1) (WN.s6 ic.1.2.1 ic.1.2.2.2.2.2.2) l1 l1' e2 e2']
  rw [← e] at b1
  exact ⟨r, M1, M2, a1, b1, iq2 ic1 im1 aw iz1 b2 (by decide) (fun j hj => b3 j (by omega) (by omega) (by omega)) b4 b5⟩
theorem st_longest : St (fun M => f11_longest M 1) (fun M => f12_longest M 86) := fun M ⟨Q, o, nw, n, A, L, B, ar, d, a, f1, f2, ic, im, aw, iz⟩ => by
  obtain ⟨cn, hcn⟩ := CnOK_ex ic.1.2.1 o
  obtain ⟨M1, r, a1, a2, a3, a4, a5, a6, a7⟩ := S11_longest ic.1 ic.2.1 hcn
  obtain ⟨ic1, im1, iz1⟩ := iq1H ic im iz a2 (by decide) (by rw [a2.i 43 (by decide)]; exact ic.2.2.2.2.2.2.2.1) (a3 14 (by decide)) a4 a5
  obtain ⟨M2, r', b1, b2, b3, b4, b5, b6, b7⟩ := SM_longest im1.1.1.1 im1.1.1.2.1 hcn
  have e : r = r' := by
    cases nw with
    | none => rw [a6 rfl, b6 rfl]
    | some q =>
      obtain ⟨l, l1, e2⟩ := a7 _ _ _ rfl
      obtain ⟨l', l1', e2'⟩ := b7 _ _ _ rfl
      exact loA_eq ic.1.2.1 (WN.s6 ic.1.2.1 ic.1.2.2.2.2.2.2) l1 l1' e2 e2'
  rw [← e] at b1
  exact ⟨r, M1, M2, a1, b1, iq2 ic1 im1 aw iz1 b2 (by decide) (fun j hj => b3 j (by omega) (by omega) (by omega)) b4 b5⟩
theorem st_now (x : Int32) : St (fun M => f11_now M 1 x) (fun M => f12_now M 86 x) := fun M ⟨Q, o, nw, n, A, L, B, ar, d, a, f1, f2, ic, im, aw, iz⟩ => by
  obtain ⟨r, a1, a2⟩ := S11_now ic.1 x
  obtain ⟨r', b1, b2⟩ := SM_now im.1.1.1 x
  have e : r = r' := nowA_eq a2 b2
  rw [← e] at b1
  exact ⟨r, M, _, a1, b1, iq0 ic im aw iz⟩
theorem st_can : St (fun M => f11_can M 1) (fun M => f12_can M 86) := fun M ⟨Q, o, nw, n, A, L, B, ar, d, a, f1, f2, ic, im, aw, iz⟩ => ⟨_, M, _, S11_can ic.1, SM_can im.1.1.1, iq0 ic im aw iz⟩
theorem st_rule (x y : Int32) : St (fun M => f11_rule M 1 x y) (fun M => f12_rule M 86 x y) := fun M ⟨Q, o, nw, n, A, L, B, ar, d, a, f1, f2, ic, im, aw, iz⟩ => by
  obtain ⟨r, a1, a2⟩ := S11_rule ic.1 x y
  obtain ⟨r', b1, b2⟩ := SM_rule im.1.1.1 x y
  have e : r = r' := ruV_eq a2 b2 ic.1.2.1.2.2.1
  rw [← e] at b1
  exact ⟨r, M, _, a1, b1, iq0 ic im aw iz⟩
theorem st_goal (x y : Int32) : St (fun M => f11_goal M 1 x y) (fun M => f12_goal M 86 x y) := fun M ⟨Q, o, nw, n, A, L, B, ar, d, a, f1, f2, ic, im, aw, iz⟩ => by
  obtain ⟨r, a1, a2⟩ := S11_goal ic.1 x y
  obtain ⟨r', b1, b2⟩ := SM_goal im.1.1.1 x y
  have e : r = r' := goV_eq a2 b2 ic.1.2.1.2.2.2.1
  rw [← e] at b1
  exact ⟨r, M, _, a1, b1, iq0 ic im aw iz⟩
theorem st_fault (x : Int32) : St (fun M => f11_fault M 1 x) (fun M => f12_fault M 86 x) := fun M ⟨Q, o, nw, n, A, L, B, ar, d, a, f1, f2, ic, im, aw, iz⟩ => by
  refine ⟨_, M, _, S11_fault ic.1.1 x, ?_, iq0 ic im aw iz⟩
  show f12_fault M 86 x = _
  rw [ic.2.2.2.2.2.2.2.2.1, ic.2.2.2.2.2.2.2.2.2, SM_fault ic.1.1 x, im.2.2.2.1, im.2.2.2.2]
theorem st_about (x : Int32) : St (fun M => f11_about M 1 x) (fun M => f12_about M 86 x) := fun M ⟨Q, o, nw, n, A, L, B, ar, d, a, f1, f2, ic, im, aw, iz⟩ => by
  obtain ⟨old, o1, o2, o3, o4, o5⟩ := ic.2.2.2.2.1
  exact ⟨_, M, _, S11_about ic.1 o3 ic.2.2.2.2.2.1.1 x, SM_about im.1.1.1 im.2.1.1 im.2.2.1.1 x, iq0 ic im aw iz⟩
end STEPS
