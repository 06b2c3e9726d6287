/-! EVERY CALL: what throws -/
section STEPT
/-- answered alike, or the class throws and the reference has its mark -/
def StT {α : Type} (ok : MM → Bool) (f g : MM → Option (α × MM)) : Prop := ∀ M, Inv M → (ok M = true → ∃ r M1 M2, f M = some (r, M1) ∧ g M1 = some (r, M2) ∧ mI M2 86 0 = 0 ∧ Inv M2) ∧ (ok M = false → ∃ r M2, g M = some (r, M2) ∧ mI M2 86 0 = 1 ∧ Inv M2)
/-- the class's own tests -/
def okS (M : MM) (x : Int32) : Bool := !decide (x < 0) && !decide (mI M (mR M 1 10) 4 ≤ x)
def okG (M : MM) (x : Int32) : Bool := !decide (x < 0) && !decide (mI M (mR M 1 10) 5 ≤ x)
def okP (M : MM) (x y z : Int32) : Bool := okS M x && okG M y && okS M z
def okH (M : MM) (x y : Int32) : Bool := okS M x && okG M y
theorem okS_e {M : MM} {P : PG} {o : Nat} {nw : NW} (h : CoC M P o nw) (x : Int32) : okS M x = ibx (pS P) x := by
  obtain ⟨b, b1, b2, b3⟩ := h.2.2.2.1
  unfold okS ibx
  rw [b1, b3.2.1]
theorem okG_e {M : MM} {P : PG} {o : Nat} {nw : NW} (h : CoC M P o nw) (x : Int32) : okG M x = ibx (pG P) x := by
  obtain ⟨b, b1, b2, b3⟩ := h.2.2.2.1
  unfold okG ibx
  rw [b1, b3.2.2.1]
theorem bI_not {b : Bool} : (b = true → bI (!b) = 0) ∧ (b = false → bI (!b) = 1) := by cases b <;> decide
theorem st_pops (x y z : Int32) : StT (fun M => okP M x y z) (fun M => f11_pops M 1 x y z) (fun M => f12_pops M 86 x y z) := fun M ⟨Q, o, nw, n, A, L, B, ar, d, a, f1, f2, ic, im, aw, iz⟩ => by
  have eo : okP M x y z = (ibx (pS Q.1) x && ibx (pG Q.1) y && ibx (pS Q.1) z) := by
    unfold okP
    rw [okS_e ic.1, okG_e ic.1, okS_e ic.1]
  refine ⟨fun c => ?_, fun c => ?_⟩
  · have c' : okP M x y z = true := c
    rw [eo] at c'
    have c2 := c'
    rw [Bool.and_eq_true, Bool.and_eq_true] at c'
    obtain ⟨p, hp, ep⟩ := ibx_out c'.1.1 (by have := ic.1.2.1.1; omega)
    obtain ⟨g, hg, eg⟩ := ibx_out c'.1.2 (by have := ic.1.2.1.2.1; omega)
    obtain ⟨q, hq, eq⟩ := ibx_out c'.2 (by have := ic.1.2.1.1; omega)
    obtain ⟨F, hF⟩ := Net_ex ic.1.2.1 o (gTG Q.1)
    obtain ⟨M1, a1, a2, a3, a4, a5⟩ := S11_pops ic.1 ic.2.1 hp hg hq hF
    rw [← ep, ← eg, ← eq] at a1
    obtain ⟨ic1, im1, iz1⟩ := iq1 ic im iz a2 (by decide) (by rw [a2.i 43 (by decide)]; exact ic.2.2.2.2.2.2.2.1) (a3 14 (by decide)) a4 a5
    obtain ⟨M2, r', b1, b2, b3, b4, b5, b6, b7⟩ := SM_pops im1.1.1.1 im1.1.1.2.1 x y z
    rw [b7 p g q F hp hg hq ep eg eq hF] at b1
    exact ⟨_, M1, M2, a1, b1, by rw [b6, c2]; rfl, iq2 ic1 im1 aw iz1 b2 (by decide) (fun j hj => b3 j (by omega) (by omega) (by omega)) b4 b5⟩
  · have c' : okP M x y z = false := c
    rw [eo] at c'
    obtain ⟨M2, r', b1, b2, b3, b4, b5, b6, b7⟩ := SM_pops im.1.1.1 im.1.1.2.1 x y z
    exact ⟨r', M2, b1, by rw [b6, c']; rfl, iq2 ic im aw iz b2 (by decide) (fun j hj => b3 j (by omega) (by omega) (by omega)) b4 b5⟩
theorem st_rises (x y : Int32) : StT (fun M => okH M x y) (fun M => f11_rises M 1 x y) (fun M => f12_rises M 86 x y) := fun M ⟨Q, o, nw, n, A, L, B, ar, d, a, f1, f2, ic, im, aw, iz⟩ => by
  have eo : okH M x y = (ibx (pS Q.1) x && ibx (pG Q.1) y) := by
    unfold okH
    rw [okS_e ic.1, okG_e ic.1]
  obtain ⟨cn, hcn⟩ := CnOK_ex ic.1.2.1 o
  obtain ⟨cF, cR, cC, cM⟩ := rise_both (cn := cn) (o := o) ic.1.2.1 (by have := ic.1.2.2.1; omega)
  refine ⟨fun c => ?_, fun c => ?_⟩
  · have c' : okH M x y = true := c
    rw [eo] at c'
    have c2 := c'
    rw [Bool.and_eq_true] at c'
    obtain ⟨p, hp, ep⟩ := ibx_out c'.1 (by have := ic.1.2.1.1; omega)
    obtain ⟨g, hg, eg⟩ := ibx_out c'.2 (by have := ic.1.2.1.2.1; omega)
    obtain ⟨M1, a1, a2, a3, a4, a5⟩ := S11_rises ic.1 ic.2.1 hcn cR cC hp hg
    rw [← ep, ← eg] at a1
    obtain ⟨ic1, im1, iz1⟩ := iq1H ic im iz a2 (by decide) (by rw [a2.i 43 (by decide)]; exact ic.2.2.2.2.2.2.2.1) (a3 14 (by decide)) a4 a5
    obtain ⟨M2, r', b1, b2, b3, b4, b5, b6, b7⟩ := SM_rises im1.1.1.1 im1.1.1.2.1 hcn cR cM x y
    rw [b7 p g hp hg ep eg] at b1
    exact ⟨_, M1, M2, a1, b1, by rw [b6, c2]; rfl, iq2 ic1 im1 aw iz1 b2 (by decide) (fun j hj => b3 j (by omega) (by omega) (by omega)) b4 b5⟩
  · have c' : okH M x y = false := c
    rw [eo] at c'
    obtain ⟨M2, r', b1, b2, b3, b4, b5, b6, b7⟩ := SM_rises im.1.1.1 im.1.1.2.1 hcn cR cM x y
    exact ⟨r', M2, b1, by rw [b6, c']; rfl, iq2 ic im aw iz b2 (by decide) (fun j hj => b3 j (by omega) (by omega) (by omega)) b4 b5⟩
theorem st_lasts (x y : Int32) : StT (fun M => okH M x y) (fun M => f11_lasts M 1 x y) (fun M => f12_lasts M 86 x y) := fun M ⟨Q, o, nw, n, A, L, B, ar, d, a, f1, f2, ic, im, aw, iz⟩ => by
  have eo : okH M x y = (ibx (pS Q.1) x && ibx (pG Q.1) y) := by
    unfold okH
    rw [okS_e ic.1, okG_e ic.1]
  obtain ⟨cn, hcn⟩ := CnOK_ex ic.1.2.1 o
  refine ⟨fun c => ?_, fun c => ?_⟩
  · have c' : okH M x y = true := c
    rw [eo] at c'
    have c2 := c'
    rw [Bool.and_eq_true] at c'
    obtain ⟨p, hp, ep⟩ := ibx_out c'.1 (by have := ic.1.2.1.1; omega)
    obtain ⟨g, hg, eg⟩ := ibx_out c'.2 (by have := ic.1.2.1.2.1; omega)
    obtain ⟨M1, l, a1, al, a2, a3, a4, a5⟩ := S11_lasts ic.1 ic.2.1 hcn hp hg
    rw [← ep, ← eg] at a1
    obtain ⟨ic1, im1, iz1⟩ := iq1H ic im iz a2 (by decide) (by rw [a2.i 43 (by decide)]; exact ic.2.2.2.2.2.2.2.1) (a3 14 (by decide)) a4 a5
    obtain ⟨M2, r', b1, b2, b3, b4, b5, b6, b7⟩ := SM_lasts im1.1.1.1 im1.1.1.2.1 hcn x y
    rw [b7 p g l hp hg ep eg al] at b1
    exact ⟨_, M1, M2, a1, b1, by rw [b6, c2]; rfl, iq2 ic1 im1 aw iz1 b2 (by decide) (fun j hj => b3 j (by omega) (by omega) (by omega)) b4 b5⟩
  · have c' : okH M x y = false := c
    rw [eo] at c'
    obtain ⟨M2, r', b1, b2, b3, b4, b5, b6, b7⟩ := SM_lasts im.1.1.1 im.1.1.2.1 hcn x y
    exact ⟨r', M2, b1, by rw [b6, c']; rfl, iq2 ic im aw iz b2 (by decide) (fun j hj => b3 j (by omega) (by omega) (by omega)) b4 b5⟩
theorem st_thrown {M : MM} (h : Inv M) : f12_thrown M 86 = some (mI M 86 0, M) := by
  obtain ⟨Q, o, nw, n, A, L, B, ar, d, a, f1, f2, ic, im, aw, iz⟩ := h
  unfold f12_thrown
  rw [aO_86 ic.1.1]
end STEPT
