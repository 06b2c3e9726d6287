/-! system at the class -/
section SYSTEMC
variable {P : PG} {o : Nat} {nw : NW} {L : Nat} {B : Nat → Nat}
/-- the class's names -/
def NaC (M : MM) (a : Nat) (Q : QG) : Prop := mR M 1 10 = a ∧ mR M 1 11 = 17 - a ∧ PnC M a Q ∧ WQ Q
theorem fI_a {a : Nat} (ha : a = 4 ∨ a = 13) : avd [1, 23, 25, 26, 28, 29, 31, 43, 17 - a, 17 - a + 6, 17 - a + 8] (fI a) = true ∧ avd [17 - a + 2, 17 - a + 4, 34, 36, 41] (fJ a) = true := by
  rcases ha with e | e <;> subst e <;> exact ⟨by decide, by decide⟩
theorem S11_system {M : MM} {n : Nat} {A : Nat → NW × Nat} {Q : QG} {a : Nat} (h : CoC M P o nw) (hq : NaC M a Q) (tp : TpC M L B) (ha : ActC M n A) : (∃ e M', progA L B 801 QZ (tok L B 0) = .inl e ∧ f11_system M 1 = some (-1, M') ∧ SmR (fI (17 - a)) (fJ (17 - a)) M M' ∧ FtC M' e ∧ mI M' 2 2 = 0) ∨ (∃ Q' M', progA L B 801 QZ (tok L B 0) = .inr Q' ∧ f11_system M 1 = some (nI (pR Q'.1), M') ∧ (∀ x k, ¬ (x = 22 ∧ k = 1) → ¬ (x = 1 ∧ (k = 10 ∨ k = 11)) → mR M' x k = mR M x k) ∧ mK M' = mK M ∧ mz M' = mz M ∧ mn M' = mn M ∧ (∀ x, x ∉ 1 :: 23 :: 29 :: fI (17 - a) → mI M' x = mI M x) ∧ (∀ x, x ∉ fJ (17 - a) → mJ M' x = mJ M x) ∧ CoC M' Q'.1 0 none ∧ NaC M' (17 - a) Q' ∧ ActC M' 0 A ∧ mI M' 1 13 = 0 ∧ mI M' 1 14 = 0 ∧ mI M' 22 2 = 0 ∧ mI M' 22 3 = -1 ∧ mI M' 2 2 = 0 ∧ ∀ j, j ≠ 12 → j ≠ 13 → j ≠ 14 → mI M' 1 j = mI M 1 j) := by
  have w := h.1
  obtain ⟨q10, q11, qn, qw⟩ := hq
  have a4 := qn.1.1
  have b4 : 17 - a = 4 ∨ 17 - a = 13 := by omega
  have cut : ∀ {X : MM}, Wl X → f9_cut X 2 0 = some (sI X 2 2 0) := fun {X} wX => by
    unfold f9_cut
    rw [aO_2 wX, bM_e]
  unfold f11_system
  rw [aO_1 w, aO_1 w, r_1_1 w, aO_22 w, q11]
  rcases S8_readsProgram (a := 17 - a) w tp b4 with ⟨e, M1, x1, x2, x3, x4⟩ | ⟨Q', t', M1, x1, x2, x3, x4, x5, x6⟩
  · have w1 := w.smR x3
    have s2 : Sm [2] [] M1 (sI M1 2 2 0) := by rw [sI_e]; exact (Sm.rfl _ _ M1).uI _ (by decide)
    refine .inl ⟨e, sI M1 2 2 0, x1, ?_, x3.tr s2 (fun x hx => by rw [List.mem_singleton.mp hx]; simp [fI]) (fun x hx => by cases hx), x4.sm (by rw [s2.i 22 (by decide)]), by rw [mI_sI, if_pos ⟨rfl, rfl⟩]⟩
    rw [x2, cI_some, aO_1 w1, r_1_0 w1, aO_2 w1, cut w1, cV_some, if_pos rfl]
  · obtain ⟨w1, tp1, tk1, tg1, r1, pn1, wq1⟩ := x4
    have r10 : mR M1 1 10 = a := by rw [x3.1 1 10 (by omega)]; exact q10
    have r11 : mR M1 1 11 = 17 - a := by rw [x3.1 1 11 (by omega)]; exact q11
    obtain ⟨M2, hM2⟩ : ∃ M2, M2 = sI M1 2 2 0 := ⟨_, rfl⟩
    have w2 : Wl M2 := by rw [hM2]; exact w1
    have r10' : mR M2 1 10 = a := by rw [hM2]; exact r10
    have r11' : mR M2 1 11 = 17 - a := by rw [hM2]; exact r11
    obtain ⟨M3, hM3⟩ : ∃ M3, M3 = sR (sR M2 1 10 (17 - a)) 1 11 a := ⟨_, rfl⟩
    have m3 : mI M3 = mI M2 ∧ mJ M3 = mJ M2 ∧ mK M3 = mK M2 ∧ mz M3 = mz M2 ∧ mn M3 = mn M2 := by rw [hM3]; exact ⟨rfl, rfl, rfl, rfl, rfl⟩
    have rr : ∀ x k, mR M3 x k = if x = 1 ∧ k = 11 then a else if x = 1 ∧ k = 10 then 17 - a else mR M2 x k := fun x k => by
      rw [hM3, sR_e, sR_e, mR_uR]
      by_cases c : x = 1
      · rw [if_pos c, upx_e, mR_uR, if_pos rfl, upx_e]
        subst c
        by_cases c1 : k = 11
        · rw [c1]; simp
        · by_cases c2 : k = 10
          · rw [c2]; simp
          · simp [c1, c2]
      · rw [if_neg c, if_neg (fun z => c z.1), if_neg (fun z => c z.1), mR_uR, if_neg c]
    have wl : ∀ {X : MM}, mK X = mK M2 → (∀ x k, ¬ (x = 1 ∧ (k = 10 ∨ k = 11)) → mR X x k = mR M2 x k) → Wl X := fun {X} hk hr => by
      refine ⟨fun x hx => by rw [hk]; exact w2.1 x hx, fun q hq => ?_⟩
      have : RRl.all (fun q => !(q.1 == 1 && (q.2.1 == 10 || q.2.1 == 11))) = true := by decide +kernel
      have := List.all_eq_true.mp this q hq
      rw [hr q.1 q.2.1 (fun z => by
        rw [z.1] at this
        rcases z.2 with y | y <;> rw [y] at this <;> exact absurd this (by decide))]
      exact w2.2 q hq
    have w3 : Wl M3 := wl m3.2.2.1 (fun x k hx => by rw [rr, if_neg (fun z => hx ⟨z.1, .inr z.2⟩), if_neg (fun z => hx ⟨z.1, .inl z.2⟩)])
    have w3a : Wl (sR M2 1 10 (17 - a)) := wl rfl (fun x k hx => by
      rw [sR_e, mR_uR]
      by_cases c : x = 1
      · rw [if_pos c, upx_e, if_neg (fun z => hx ⟨c, .inl z⟩), c]
      · rw [if_neg c])
    have e3 : ∀ x, x ≠ 2 → mI M3 x = mI M1 x := fun x hx => by rw [m3.1, hM2, sI_e, mI_uI, if_neg hx]
    have h0 : mI M3 23 0 = nI 40 := by
      have a5 := h.2.2.2.2.2.1.b h.2.2.2.2.2.2
      have := fI_a b4
      rw [e3 23 (by decide), x3.2.2.2.2.1 23 (avd_n this.1 (by simp))]
      exact a5.1
    obtain ⟨f1, f2, f3, f4⟩ := S6_forget (b := 23) (s := fun _ => 0) w3 (.inl rfl) h0
    obtain ⟨M4, hM4⟩ : ∃ M4, M4 = sI (sI M3 23 2 (-1)) 23 3 0 := ⟨_, rfl⟩
    rw [← hM4] at f1 f2 f3 f4
    have w4 := w3.sm f3
    have s4 : Sm [23] [] M3 M4 := by rw [hM4, sI_e, sI_e]; exact ((Sm.rfl _ _ M3).uI _ (by decide)).uI _ (by decide)
    obtain ⟨M5, hM5⟩ : ∃ M5, M5 = sI M4 29 2 0 := ⟨_, rfl⟩
    have w5 : Wl M5 := by rw [hM5]; exact w4
    have s5 : Sm [29] [] M4 M5 := by rw [hM5, sI_e]; exact (Sm.rfl _ _ M4).uI _ (by decide)
    obtain ⟨p1, p2, p3, p4, p5⟩ := poM_e (M := M5) (o' := 0)
    have w6 := w5.sm p1
    have s36 : Sm [1, 23, 29] [] M3 (poM M5 0) := ((s4.more (by decide) (by decide)).trans (s5.more (by decide) (by decide))).trans (p1.more (by decide) (by decide))
    have pn3 : PnC M3 (17 - a) Q' := by
      have n2 : (17 - a : Nat) ≠ 2 ∧ 17 - a + 6 ≠ 2 ∧ 17 - a + 8 ≠ 2 := by omega
      unfold PnC PgC at *
      rw [e3 (17 - a) n2.1, e3 (17 - a + 6) n2.2.1, e3 (17 - a + 8) n2.2.2, m3.2.1, show mJ M2 = mJ M1 by rw [hM2]; rfl]
      exact pn1
    have pn6 : PnC (poM M5 0) (17 - a) Q' := pn3.sm s36 (by decide) (by decide)
    have R6 : ∀ x k, mR (poM M5 0) x k = if x = 1 ∧ k = 11 then a else if x = 1 ∧ k = 10 then 17 - a else mR M2 x k := fun x k => by rw [s36.r]; exact rr x k
    have av := fI_a b4
    have i6 : ∀ x, x ≠ 2 → x ∉ [1, 23, 29] → mI (poM M5 0) x = mI M1 x := fun x h1 h2 => by rw [s36.i x h2, e3 x h1]
    have na : NaC (poM M5 0) (17 - a) Q' := ⟨by rw [R6, if_neg (by omega), if_pos ⟨rfl, rfl⟩], by rw [R6, if_pos ⟨rfl, rfl⟩]; omega, pn6, wq1⟩
    have e23 : mI (poM M5 0) 23 = mI M4 23 := by rw [p1.i 23 (by decide), s5.i 23 (by decide)]
    have here6 : HereC (poM M5 0) none := by
      show mI (poM M5 0) 23 0 = nI 40 ∧ mI (poM M5 0) 23 2 = -1 ∧ mI (poM M5 0) 23 3 = 0
      rw [e23]
      refine ⟨by rw [f2.2.1]; rfl, f4, f2.2.2.1⟩
    have av1 := av.1
    have c29 : ∀ k, mI (poM M5 0) 29 k = if k = 2 then 0 else mI M 29 k := fun k => by
      rw [p1.i 29 (by decide), hM5, mI_sI, s4.i 29 (by decide), e3 29 (by decide), x3.2.2.2.2.1 29 (avd_n av1 (by simp))]
      by_cases c : k = 2
      · rw [if_pos ⟨rfl, c⟩, if_pos c]
      · rw [if_neg (fun z => c z.2), if_neg c]
    have act6 : ActC (poM M5 0) 0 A := by
      obtain ⟨old, o1, o2, o3, o4, o5⟩ := ha
      exact ⟨old, o1, by rw [c29, if_neg (by decide)]; exact o2, by rw [c29, if_pos rfl]; rfl, by omega, fun j hj => absurd hj (Nat.not_lt_zero j)⟩
    refine .inr ⟨Q', poM M5 0, x1, ?_, fun x k hx hx' => ?_, ?_, ?_, ?_, fun x hx => ?_, fun x hx => ?_, ⟨w6, wq1.1, by decide, ⟨17 - a, na.1, na.2.1, pn6.1⟩, p2, here6, trivial⟩, na, act6, p3, p4, ?_, ?_, ?_, fun j h1 h2 h3 => ?_⟩
    · have pg6 := pn6.1
      rw [x2, cI_some, aO_1 w1, r_1_0 w1, aO_2 w1, cut w1, cV_some, if_neg (by decide), ← hM2, aO_1 w2, r10', bW_e, aO_1 w2, aO_1 w2, r11', bM_e, aO_1 w3a, bM_e, ← hM3, aO_1 w3, r_1_2 w3, aO_23 w3, f1, cV_some, aO_1 w4, r_1_4 w4, aO_29 w4]
      unfold f0_forget
      rw [aO_29 w4, bM_e, ← hM5, cV_some, aO_1 w5, show (0 : Int32) = nI 0 from rfl, S11_putOut w5, cV_some, aO_1 w6, na.1, pg6.oP w6, pg6.2.2.2.1]
    · rw [R6, if_neg (fun z => hx' ⟨z.1, .inr z.2⟩), if_neg (fun z => hx' ⟨z.1, .inl z.2⟩), hM2]
      exact x3.1 x k hx
    · rw [s36.k, m3.2.2.1, hM2]; exact x3.2.1
    · rw [s36.z, m3.2.2.2.1, hM2]; exact x3.2.2.1
    · rw [s36.n, m3.2.2.2.2, hM2]; exact x3.2.2.2.1
    · have n2 : x ≠ 2 := fun z => hx (by rw [z]; unfold fI; simp)
      have n3 : x ∉ [1, 23, 29] := fun z => hx (by
        simp only [List.mem_cons, List.not_mem_nil, or_false] at z ⊢
        omega)
      rw [i6 x n2 n3]
      exact x3.2.2.2.2.1 x (fun z => hx (List.mem_cons_of_mem _ (List.mem_cons_of_mem _ (List.mem_cons_of_mem _ z))))
    · rw [s36.j x (by simp), m3.2.1, show mJ M2 = mJ M1 by rw [hM2]; rfl]
      exact x3.2.2.2.2.2 x hx
    · rw [i6 22 (by decide) (by decide)]
      exact x5
    · rw [i6 22 (by decide) (by decide)]
      exact x6
    · rw [s36.i 2 (by decide), m3.1, hM2, mI_sI, if_pos ⟨rfl, rfl⟩]
    · rw [p5 j h1 h2 h3, s5.i 1 (by decide), s4.i 1 (by decide), e3 1 (by decide), x3.2.2.2.2.1 1 (avd_n av1 (by simp))]
end SYSTEMC
