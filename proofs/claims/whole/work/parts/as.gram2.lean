/-! THE GRAMMAR: lines -/
section GRAM2
variable {L : Nat} {B : Nat → Nat}
theorem ruleA_g {Q Q' : QG} {t t1 : TK} (w : WQ Q) (h : TkG L t) (e : ruleA L B Q t = .inr (Q', t1)) : WQ Q' ∧ TkG L t1 ∧ tkE t ≤ tkP t1 := by
  unfold ruleA at e
  by_cases c : 14 ≤ pR Q.1
  · rw [if_pos c] at e; cases e
  · rw [if_neg c] at e
    have n1 := h.n (B := B)
    cases q1 : takeN L B Q.2.1 (pS Q.1) (nxt L B t) with
    | inl z => simp only [q1] at e; cases e
    | inr z =>
      obtain ⟨a, t2⟩ := z
      simp only [q1] at e
      obtain ⟨a1, a2, a3, -⟩ := takeN_g n1.1 q1
      cases q2 : takeN L B Q.2.2 (pG Q.1) t2 with
      | inl z => simp only [q2] at e; cases e
      | inr z =>
        obtain ⟨b, t3⟩ := z
        simp only [q2] at e
        obtain ⟨b1, b2, b3, -⟩ := takeN_g a2 q2
        cases q3 : toA L B t3 with
        | inl z => simp only [q3] at e; cases e
        | inr t4 =>
          simp only [q3] at e
          obtain ⟨c1, c2⟩ := toA_g b2 q3
          cases q4 : takeN L B Q.2.1 (pS Q.1) t4 with
          | inl z => simp only [q4] at e; cases e
          | inr z =>
            obtain ⟨cc, t5⟩ := z
            simp only [q4] at e
            obtain ⟨d1, d2, d3, -⟩ := takeN_g c1 q4
            cases q5 : sgA L B Q.2.2 (pG Q.1) 2 t5 with
            | inl z => simp only [q5] at e; cases e
            | inr z =>
              obtain ⟨l, t6⟩ := z
              simp only [q5] at e
              obtain ⟨e1, e2, e3, e4⟩ := sgA_g d2 q5
              cases q6 : costA L B t6 with
              | inl z => simp only [q6] at e; cases e
              | inr z =>
                obtain ⟨v, t7⟩ := z
                simp only [q6] at e
                obtain ⟨f1, f2, f3, f4⟩ := costA_g e3 q6
                cases q7 : semiA L B t7 with
                | inl z => simp only [q7] at e; cases e
                | inr t8 =>
                  simp only [q7] at e
                  cases e
                  obtain ⟨g1, g2⟩ := semiA_g f1 q7
                  refine ⟨addR_w w (by omega) a1 b1 d1 e1 e2 f3 f4, g1, ?_⟩
                  have := n1.2
                  have := n1.1.2.1
                  have := a2.2.1
                  have := b2.2.1
                  have := c1.2.1
                  have := d2.2.1
                  have := e3.2.1
                  have := f1.2.1
                  omega
theorem goalA_g {Q Q' : QG} {t t1 : TK} (w : WQ Q) (h : TkG L t) (e : goalA L B Q t = .inr (Q', t1)) : WQ Q' ∧ TkG L t1 ∧ tkE t ≤ tkP t1 := by
  unfold goalA at e
  by_cases c : 4 ≤ pK Q.1
  · rw [if_pos c] at e; cases e
  · rw [if_neg c] at e
    have n1 := h.n (B := B)
    cases q1 : takeN L B Q.2.1 (pS Q.1) (nxt L B t) with
    | inl z => simp only [q1] at e; cases e
    | inr z =>
      obtain ⟨a, t2⟩ := z
      simp only [q1] at e
      obtain ⟨a1, a2, a3, -⟩ := takeN_g n1.1 q1
      cases q5 : sgA L B Q.2.2 (pG Q.1) 3 t2 with
      | inl z => simp only [q5] at e; cases e
      | inr z =>
        obtain ⟨l, t3⟩ := z
        simp only [q5] at e
        obtain ⟨e1, e2, e3, e4⟩ := sgA_g a2 q5
        obtain ⟨f1, f2, f3⟩ := moreA_g (B := B) e3
        cases q7 : semiA L B (moreA L B t3).2 with
        | inl z => simp only [q7] at e; cases e
        | inr t8 =>
          simp only [q7] at e
          cases e
          obtain ⟨g1, g2⟩ := semiA_g f1 q7
          refine ⟨addK_w w (by omega) a1 e1 e2 f3, g1, ?_⟩
          have := n1.2
          have := n1.1.2.1
          have := a2.2.1
          have := e3.2.1
          have := f1.2.1
          omega
theorem lineA_g {Q Q' : QG} {t t1 : TK} (w : WQ Q) (h : TkG L t) (h0 : tkK t ≠ 0) (e : lineA L B Q t = .inr (Q', t1)) : WQ Q' ∧ TkG L t1 ∧ tkP t < tkP t1 := by
  have lt := h.2.2.1 h0
  have main : WQ Q' ∧ TkG L t1 ∧ tkE t ≤ tkP t1 := by
    unfold lineA at e
    by_cases c1 : isW t kwS = true
    · rw [if_pos c1] at e
      exact stateA_g w h e
    · rw [if_neg c1] at e
      by_cases c2 : isW t kwG = true
      · rw [if_pos c2] at e
        exact signA_g w h e
      · rw [if_neg c2] at e
        by_cases c3 : isW t kwR = true
        · rw [if_pos c3] at e
          exact ruleA_g w h e
        · rw [if_neg c3] at e
          by_cases c4 : isW t kwL = true
          · rw [if_pos c4] at e
            exact goalA_g w h e
          · rw [if_neg c4] at e
            cases e
  exact ⟨main.1, main.2.1, by omega⟩
theorem Q0_w (Q : QG) : WQ (Q0 Q) := ⟨⟨Nat.zero_le _, Nat.zero_le _, Nat.zero_le _, Nat.zero_le _, fun r hr => absurd hr (Nat.not_lt_zero _), fun k hk => absurd hk (Nat.not_lt_zero _)⟩, fun p hp => absurd hp (Nat.not_lt_zero _), fun p hp => absurd hp (Nat.not_lt_zero _)⟩
theorem progA_g : ∀ {n : Nat} {Q Q' : QG} {t : TK}, WQ Q → TkG L t → progA L B n Q t = .inr Q' → WQ Q'
  | 0, Q, Q', t, w, _, e => by
    cases e
    exact w
  | n + 1, Q, Q', t, w, h, e => by
    have e' : (if tkK t = 0 then .inr Q else match lineA L B Q t with | .inl e => .inl e | .inr (Q', t') => progA L B n Q' t') = (.inr Q' : PR QG) := e
    by_cases c : tkK t = 0
    · rw [if_pos c] at e'
      cases e'
      exact w
    · rw [if_neg c] at e'
      cases q : lineA L B Q t with
      | inl z => simp only [q] at e'; cases e'
      | inr z =>
        obtain ⟨Q2, t2⟩ := z
        simp only [q] at e'
        obtain ⟨a1, a2, -⟩ := lineA_g w h c q
        exact progA_g a1 a2 e'
theorem plA_g {nm : Nat → List Nat} {n : Nat} : ∀ {m : Nat} {t : TK} {l : List Nat}, TkG L t → plA L B nm n m t = .inr l → l.length ≤ m ∧ ∀ x, x ∈ l → x < n
  | 0, t, l, h, e => by
    have e' : (if tkK t = 0 then .inr [] else .inl (refA t)) = (.inr l : PR (List Nat)) := e
    by_cases c : tkK t = 0
    · rw [if_pos c] at e'
      cases e'
      exact ⟨Nat.le_refl _, (fun x hx => by cases hx)⟩
    · rw [if_neg c] at e'
      cases e'
  | m + 1, t, l, h, e => by
    have e' : (if tkK t = 0 then .inr [] else match takeN L B nm n t with | .inl e => .inl e | .inr (k, t1) => match plA L B nm n m t1 with | .inl e => .inl e | .inr l => .inr (k :: l)) = (.inr l : PR (List Nat)) := e
    by_cases c : tkK t = 0
    · rw [if_pos c] at e'
      cases e'
      exact ⟨Nat.zero_le _, (fun x hx => by cases hx)⟩
    · rw [if_neg c] at e'
      cases q : takeN L B nm n t with
      | inl z => simp only [q] at e'; cases e'
      | inr z =>
        obtain ⟨k, t2⟩ := z
        simp only [q] at e'
        obtain ⟨g1, g2, -⟩ := takeN_g h q
        cases q2 : plA L B nm n m t2 with
        | inl z => simp only [q2] at e'; cases e'
        | inr l2 =>
          simp only [q2] at e'
          cases e'
          obtain ⟨i1, i2⟩ := plA_g g2 q2
          refine ⟨by show l2.length + 1 ≤ m + 1; omega, fun x hx => ?_⟩
          rcases List.mem_cons.mp hx with z | z
          · rw [z]; exact g1
          · exact i2 x z
/-! the class: words, names, faults -/
def PnC (M : MM) (a : Nat) (Q : QG) : Prop := PgC M a Q.1 ∧ (∀ p, p < pS Q.1 → mJ M (a + 2) p = lN (c8 (Q.2.1 p))) ∧ ∀ g, g < pG Q.1 → mJ M (a + 4) g = lN (c8 (Q.2.2 g))
def RdC (M : MM) (a : Nat) (L : Nat) (B : Nat → Nat) (Q : QG) (t : TK) : Prop := Wl M ∧ TpC M L B ∧ TkC M t ∧ TkG L t ∧ mR M 22 1 = a ∧ PnC M a Q ∧ WQ Q
theorem S9_isWord {M : MM} {t : TK} (w : Wl M) (h : TkC M t) (g : TkG L t) {k : List Nat} (hk : k ∈ kws) : f9_isWord M 2 (lN (c8 k)) = some (bI (isW t k), M) := by
  unfold f9_isWord isW
  have k4 := g.2.2.2.1
  rw [aO_2 w, h.2.1]
  by_cases c : tkK t = 2
  · have v := g.2.2.2.2.1 c
    have l1 := v.c8
    have l2 := (kw_v hk).c8
    rw [if_pos (show nI (tkK t) = 2 by rw [c]; rfl), aO_2 w, h.2.2.2.1 c, decide_eq_true c, Bool.true_and]
    by_cases e : tkW t = k
    · rw [if_pos (by rw [e]), decide_eq_true e]
      rfl
    · rw [if_neg (fun z => e (c8_inj v.1 (kw_v hk).1 ((lN_eqN (by omega) (by omega)).mp z))), decide_eq_false e]
      rfl
  · rw [if_neg (show ¬ nI (tkK t) = 2 by rw [show (2 : Int32) = nI 2 from rfl, nI_eq (by omega) (by omega)]; exact c), decide_eq_false c, Bool.false_and]
    rfl
theorem S9_isName {M : MM} {t : TK} (w : Wl M) (h : TkC M t) (g : TkG L t) : f9_isName M 2 = some (bI (isN t), M) := by
  unfold f9_isName isN
  have k4 := g.2.2.2.1
  rw [aO_2 w, h.2.1]
  by_cases c : tkK t = 2
  · have v := g.2.2.2.2.1 c
    have l1 := v.c8
    have one : ∀ k, k ∈ kws → ((lN (c8 (tkW t)) = lN (c8 k)) ↔ tkW t = k) := fun k hk => by
      have l2 := (kw_v hk).c8
      exact ⟨fun z => c8_inj v.1 (kw_v hk).1 ((lN_eqN (by omega) (by omega)).mp z), fun z => by rw [z]⟩
    have oS := one kwS (by decide)
    have oG := one kwG (by decide)
    have oR := one kwR (by decide)
    have oL := one kwL (by decide)
    have oT := one kwT (by decide)
    have oC := one kwC (by decide)
    have oM := one kwM (by decide)
    rw [if_pos (show nI (tkK t) = 2 by rw [c]; rfl), aO_2 w, h.2.2.2.1 c, decide_eq_true c, Bool.true_and]
    show (if lN (c8 (tkW t)) = lN (c8 kwS) then some ((0 : Int32), M) else aO M 2 9 <| if lN (c8 (tkW t)) = lN (c8 kwG) then some ((0 : Int32), M) else aO M 2 9 <| if lN (c8 (tkW t)) = lN (c8 kwR) then some ((0 : Int32), M) else aO M 2 9 <| if lN (c8 (tkW t)) = lN (c8 kwL) then some ((0 : Int32), M) else aO M 2 9 <| if lN (c8 (tkW t)) = lN (c8 kwT) then some ((0 : Int32), M) else aO M 2 9 <| if lN (c8 (tkW t)) = lN (c8 kwC) then some ((0 : Int32), M) else aO M 2 9 <| if lN (c8 (tkW t)) = lN (c8 kwM) then some ((0 : Int32), M) else some ((1 : Int32), M)) = some (bI (!(decide (tkW t = kwS) || (decide (tkW t = kwG) || (decide (tkW t = kwR) || (decide (tkW t = kwL) || (decide (tkW t = kwT) || (decide (tkW t = kwC) || (decide (tkW t = kwM) || false)))))))), M)
    by_cases d1 : tkW t = kwS
    · rw [if_pos (oS.mpr d1), decide_eq_true d1, Bool.true_or]; rfl
    · rw [if_neg (fun z => d1 (oS.mp z)), decide_eq_false d1, Bool.false_or, aO_2 w]
      by_cases d2 : tkW t = kwG
      · rw [if_pos (oG.mpr d2), decide_eq_true d2, Bool.true_or]; rfl
      · rw [if_neg (fun z => d2 (oG.mp z)), decide_eq_false d2, Bool.false_or, aO_2 w]
        by_cases d3 : tkW t = kwR
        · rw [if_pos (oR.mpr d3), decide_eq_true d3, Bool.true_or]; rfl
        · rw [if_neg (fun z => d3 (oR.mp z)), decide_eq_false d3, Bool.false_or, aO_2 w]
          by_cases d4 : tkW t = kwL
          · rw [if_pos (oL.mpr d4), decide_eq_true d4, Bool.true_or]; rfl
          · rw [if_neg (fun z => d4 (oL.mp z)), decide_eq_false d4, Bool.false_or, aO_2 w]
            by_cases d5 : tkW t = kwT
            · rw [if_pos (oT.mpr d5), decide_eq_true d5, Bool.true_or]; rfl
            · rw [if_neg (fun z => d5 (oT.mp z)), decide_eq_false d5, Bool.false_or, aO_2 w]
              by_cases d6 : tkW t = kwC
              · rw [if_pos (oC.mpr d6), decide_eq_true d6, Bool.true_or]; rfl
              · rw [if_neg (fun z => d6 (oC.mp z)), decide_eq_false d6, Bool.false_or, aO_2 w]
                by_cases d7 : tkW t = kwM
                · rw [if_pos (oM.mpr d7), decide_eq_true d7, Bool.true_or]; rfl
                · rw [if_neg (fun z => d7 (oM.mp z)), decide_eq_false d7, Bool.false_or]; rfl
  · rw [if_neg (show ¬ nI (tkK t) = 2 by rw [show (2 : Int32) = nI 2 from rfl, nI_eq (by omega) (by omega)]; exact c), decide_eq_false c, Bool.false_and]
    rfl
/-- a fault told -/
def FtC (M : MM) (e : Nat × Nat) : Prop := mI M 22 2 = nI e.1 ∧ mI M 22 3 = nI e.2
theorem S8_fail {M : MM} {t : TK} (w : Wl M) (h : TkC M t) (k : Nat) : ∃ M', f8_fail M 22 (nI k) = some (0, M') ∧ Sm [22] [] M M' ∧ FtC M' (k, tkP t) := by
  have w1 : Wl (sI M 22 2 (nI k)) := w
  refine ⟨sI (sI M 22 2 (nI k)) 22 3 (nI (tkP t)), ?_, by rw [sI_e, sI_e]; exact ((Sm.rfl _ _ M).uI _ (by decide)).uI _ (by decide), by rw [mI_sI, if_neg (by decide), mI_sI, if_pos ⟨rfl, rfl⟩], by rw [mI_sI, if_pos ⟨rfl, rfl⟩]⟩
  unfold f8_fail
  have e4 : mI (sI M 22 2 (nI k)) 2 4 = nI (tkP t) := by rw [mI_sI, if_neg (by decide)]; exact h.2.2.1
  rw [aO_22 w, bM_e, aO_22 w1, r_22_0 w1, aO_2 w1, aO_22 w1, e4, bM_e]
theorem S8_refuse {M : MM} {t : TK} (w : Wl M) (h : TkC M t) (g : TkG L t) : ∃ M', f8_refuse M 22 = some (0, M') ∧ Sm [22] [] M M' ∧ FtC M' (refA t) := by
  have k4 := g.2.2.2.1
  unfold f8_refuse refA
  rw [aO_22 w, r_22_0 w, aO_2 w, h.2.1]
  by_cases c : tkK t = 1
  · obtain ⟨M', a1, a2, a3⟩ := S8_fail w h 1
    rw [if_pos (show nI (tkK t) = 1 by rw [c]; rfl), if_pos c, aO_22 w, show (1 : Int32) = nI 1 from rfl, a1, cI_some, gd_e (.inl rfl)]
    exact ⟨M', rfl, a2, a3⟩
  · obtain ⟨M', a1, a2, a3⟩ := S8_fail w h 2
    rw [if_neg (show ¬ nI (tkK t) = 1 by rw [show (1 : Int32) = nI 1 from rfl, nI_eq (by omega) (by omega)]; exact c), if_neg c, aO_22 w, show (2 : Int32) = nI 2 from rfl, a1, cI_some, gd_e (.inl rfl)]
    exact ⟨M', rfl, a2, a3⟩
end GRAM2
