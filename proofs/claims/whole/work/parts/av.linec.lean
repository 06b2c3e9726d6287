/-! READING at the class: lines -/
section LINEC
variable {L : Nat} {B : Nat → Nat} {a : Nat} {Q : QG} {t : TK}
/-- what a line's reading answers at the class -/
def LnC (f : Option (Int32 × MM)) (M : MM) (a : Nat) (L : Nat) (B : Nat → Nat) (r : PR (QG × TK)) : Prop := (∃ e M', r = .inl e ∧ f = some (0, M') ∧ Sm (fI a) (fJ a) M M' ∧ FtC M' e) ∨ (∃ Q' t' M', r = .inr (Q', t') ∧ f = some (1, M') ∧ Sm (hIa a) (fJ a) M M' ∧ RdC M' a L B Q' t')
theorem S7_addState {M : MM} (w : Wl M) (pg : PgC M a Q.1) (hs : pS Q.1 < 5) (x : Int64) : f7_addState M a x = some (sI (uJ M (a + 2) (upx (mJ M (a + 2)) (pS Q.1) x)) a 4 (nI (pS Q.1 + 1))) := by
  have w1 : ∀ {r}, Wl (uJ M (a + 2) r) := w
  unfold f7_addState
  rw [pg.oP w, pg.oP w, pg.2.1]
  rcases pg.1 with e | e <;> subst e
  · rw [r_4_0 w, aO_5 w, s_5 w, pJ_in hs (by omega), cV_some, aO_4 w1, aO_4 w1, mI_uJ, pg.2.1, nI_1, bM_e]
  · rw [r_13_0 w, aO_14 w, s_14 w, pJ_in hs (by omega), cV_some, aO_13 w1, aO_13 w1, mI_uJ, pg.2.1, nI_1, bM_e]
theorem S7_addSign {M : MM} (w : Wl M) (pg : PgC M a Q.1) (hs : pG Q.1 < 6) (x : Int64) : f7_addSign M a x = some (sI (uJ M (a + 4) (upx (mJ M (a + 4)) (pG Q.1) x)) a 5 (nI (pG Q.1 + 1))) := by
  have w1 : ∀ {r}, Wl (uJ M (a + 4) r) := w
  unfold f7_addSign
  rw [pg.oP w, pg.oP w, pg.2.2.1]
  rcases pg.1 with e | e <;> subst e
  · rw [r_4_1 w, aO_7 w, s_7 w, pJ_in hs (by omega), cV_some, aO_4 w1, aO_4 w1, mI_uJ, pg.2.2.1, nI_1, bM_e]
  · rw [r_13_1 w, aO_16 w, s_16 w, pJ_in hs (by omega), cV_some, aO_13 w1, aO_13 w1, mI_uJ, pg.2.2.1, nI_1, bM_e]
theorem RdC.addS {M : MM} (h : RdC M a L B Q t) (hs : pS Q.1 < 5) {w : List Nat} (hw : NmV w) : RdC (sI (uJ M (a + 2) (upx (mJ M (a + 2)) (pS Q.1) (lN (c8 w)))) a 4 (nI (pS Q.1 + 1))) a L B (addS Q w) t := by
  have a4 := h.a4
  obtain ⟨w0, tp, tk, g, r1, ⟨pg, n1, n2⟩, wq⟩ := h
  have e : ∀ b j, ¬ (b = a ∧ j = 4) → mI (sI (uJ M (a + 2) (upx (mJ M (a + 2)) (pS Q.1) (lN (c8 w)))) a 4 (nI (pS Q.1 + 1))) b j = mI M b j := fun b j hb => by rw [mI_sI, if_neg hb, mI_uJ]
  have eb : ∀ b, b ≠ a → mI (sI (uJ M (a + 2) (upx (mJ M (a + 2)) (pS Q.1) (lN (c8 w)))) a 4 (nI (pS Q.1 + 1))) b = mI M b := fun b hb => by rw [sI_e, mI_uI, if_neg hb, mI_uJ]
  have j : ∀ b, mJ (sI (uJ M (a + 2) (upx (mJ M (a + 2)) (pS Q.1) (lN (c8 w)))) a 4 (nI (pS Q.1 + 1))) b = if b = a + 2 then upx (mJ M (a + 2)) (pS Q.1) (lN (c8 w)) else mJ M b := fun b => rfl
  obtain ⟨⟨p1, p2, p3, p4, p5, p6⟩, v1, v2⟩ := wq
  refine ⟨w0, ?_, ?_, g, r1, ⟨⟨pg.1, ?_, ?_, ?_, ?_, ?_, ?_⟩, fun p hp => ?_, fun g' hg => ?_⟩, ⟨by show pS Q.1 + 1 ≤ 5; omega, p2, p3, p4, fun r hr => ?_, fun k hk => ?_⟩, fun p hp => ?_, v2⟩
  · unfold TpC
    rw [eb 2 (by omega), eb 3 (by omega)]
    exact tp
  · unfold TkC
    rw [eb 2 (by omega), j 2, if_neg (by omega)]
    exact tk
  · rw [mI_sI, if_pos ⟨rfl, rfl⟩]; rfl
  · rw [e a 5 (by omega)]; exact pg.2.2.1
  · rw [e a 6 (by omega)]; exact pg.2.2.2.1
  · rw [e a 7 (by omega)]; exact pg.2.2.2.2.1
  · rw [eb (a + 6) (by omega)]; exact pg.2.2.2.2.2.1
  · rw [eb (a + 8) (by omega)]; exact pg.2.2.2.2.2.2
  · have hp' : p < pS Q.1 + 1 := hp
    rw [j, if_pos rfl, upx_e]
    show _ = lN (c8 (upx Q.2.1 (pS Q.1) w p))
    rw [upx_e]
    by_cases q : p = pS Q.1
    · rw [if_pos q, if_pos q]
    · rw [if_neg q, if_neg q]
      exact n1 p (by omega)
  · rw [j, if_neg (by omega)]
    exact n2 g' hg
  · obtain ⟨a1, a2, a3, a4⟩ := p5 r hr
    exact ⟨Nat.lt_succ_of_lt a1, a2, Nat.lt_succ_of_lt a3, a4⟩
  · obtain ⟨a1, a2⟩ := p6 k hk
    exact ⟨Nat.lt_succ_of_lt a1, a2⟩
  · show NmV (upx Q.2.1 (pS Q.1) w p)
    have hp' : p < pS Q.1 + 1 := hp
    rw [upx_e]
    split
    · exact hw
    · exact v1 p (by omega)
theorem RdC.addG {M : MM} (h : RdC M a L B Q t) (hs : pG Q.1 < 6) {w : List Nat} (hw : NmV w) : RdC (sI (uJ M (a + 4) (upx (mJ M (a + 4)) (pG Q.1) (lN (c8 w)))) a 5 (nI (pG Q.1 + 1))) a L B (addG Q w) t := by
  have a4 := h.a4
  obtain ⟨w0, tp, tk, g, r1, ⟨pg, n1, n2⟩, wq⟩ := h
  have e : ∀ b j, ¬ (b = a ∧ j = 5) → mI (sI (uJ M (a + 4) (upx (mJ M (a + 4)) (pG Q.1) (lN (c8 w)))) a 5 (nI (pG Q.1 + 1))) b j = mI M b j := fun b j hb => by rw [mI_sI, if_neg hb, mI_uJ]
  have eb : ∀ b, b ≠ a → mI (sI (uJ M (a + 4) (upx (mJ M (a + 4)) (pG Q.1) (lN (c8 w)))) a 5 (nI (pG Q.1 + 1))) b = mI M b := fun b hb => by rw [sI_e, mI_uI, if_neg hb, mI_uJ]
  have j : ∀ b, mJ (sI (uJ M (a + 4) (upx (mJ M (a + 4)) (pG Q.1) (lN (c8 w)))) a 5 (nI (pG Q.1 + 1))) b = if b = a + 4 then upx (mJ M (a + 4)) (pG Q.1) (lN (c8 w)) else mJ M b := fun b => rfl
  obtain ⟨⟨p1, p2, p3, p4, p5, p6⟩, v1, v2⟩ := wq
  refine ⟨w0, ?_, ?_, g, r1, ⟨⟨pg.1, ?_, ?_, ?_, ?_, ?_, ?_⟩, fun p hp => ?_, fun g' hg => ?_⟩, ⟨p1, by show pG Q.1 + 1 ≤ 6; omega, p3, p4, fun r hr => ?_, fun k hk => ?_⟩, v1, fun p hp => ?_⟩
  · unfold TpC
    rw [eb 2 (by omega), eb 3 (by omega)]
    exact tp
  · unfold TkC
    rw [eb 2 (by omega), j 2, if_neg (by omega)]
    exact tk
  · rw [e a 4 (by omega)]; exact pg.2.1
  · rw [mI_sI, if_pos ⟨rfl, rfl⟩]; rfl
  · rw [e a 6 (by omega)]; exact pg.2.2.2.1
  · rw [e a 7 (by omega)]; exact pg.2.2.2.2.1
  · rw [eb (a + 6) (by omega)]; exact pg.2.2.2.2.2.1
  · rw [eb (a + 8) (by omega)]; exact pg.2.2.2.2.2.2
  · rw [j, if_neg (by omega)]
    exact n1 p hp
  · have hp' : g' < pG Q.1 + 1 := hg
    rw [j, if_pos rfl, upx_e]
    show _ = lN (c8 (upx Q.2.2 (pG Q.1) w g'))
    rw [upx_e]
    by_cases q : g' = pG Q.1
    · rw [if_pos q, if_pos q]
    · rw [if_neg q, if_neg q]
      exact n2 g' (by omega)
  · obtain ⟨a1, a2, a3, a4, a5, a6, a7⟩ := p5 r hr
    exact ⟨a1, Nat.lt_succ_of_lt a2, a3, a4, fun z => Nat.lt_succ_of_lt (a5 z), fun z => Nat.lt_succ_of_lt (a6 z), a7⟩
  · obtain ⟨a1, a2, a3, a4⟩ := p6 k hk
    exact ⟨a1, a2, a3, fun i hi => Nat.lt_succ_of_lt (a4 i hi)⟩
  · show NmV (upx Q.2.2 (pG Q.1) w p)
    have hp' : p < pG Q.1 + 1 := hp
    rw [upx_e]
    split
    · exact hw
    · exact v2 p (by omega)
theorem S8_readsState {M : MM} (h : RdC M a L B Q t) : LnC (f8_readsState M 22) M a L B (stateA L B Q t) := by
  obtain ⟨w, tp, tk, g, r1, pn, wq⟩ := id h
  have p5 := wq.1.1
  unfold f8_readsState stateA
  rw [aO_22 w, r1, pn.1.oP w, pn.1.2.1]
  by_cases c : 5 ≤ pS Q.1
  · obtain ⟨M', a1, a2, a3⟩ := S8_fail w tk 5
    rw [if_pos c, if_neg (show ¬ nI (pS Q.1) < 5 by rw [show (5 : Int32) = nI 5 from rfl, c_lt (by omega) (by omega)]; omega), aO_22 w, show (5 : Int32) = nI 5 from rfl, a1, cI_some, gd_e (.inl rfl)]
    exact .inl ⟨_, M', rfl, rfl, a2.fi22 a, a3⟩
  · obtain ⟨M1, b1, b2, b3⟩ := h.take
    obtain ⟨w1, tp1, tk1, g1, r11, pn1, -⟩ := id b3
    rw [if_neg c, if_pos (show nI (pS Q.1) < 5 by rw [show (5 : Int32) = nI 5 from rfl, c_lt (by omega) (by omega)]; omega), aO_22 w, r_22_0 w, aO_2 w, b1, cV_some, aO_22 w1]
    rcases S8_isNewName b3 with ⟨e, M', x1, x2, x3, x4⟩ | ⟨x1, x2, x3⟩
    · rw [x1, x2, cI_some, if_pos rfl]
      exact .inl ⟨_, M', rfl, rfl, (b2.fi2 a).gw.trans (x3.fi22 a), x4⟩
    · have v := g1.2.2.2.2.1 (isN_2 x3)
      have lt5 : pS Q.1 < 5 := by omega
      have h2 := b3.addS lt5 v
      obtain ⟨M2, hM2⟩ : ∃ M2, M2 = sI (uJ M1 (a + 2) (upx (mJ M1 (a + 2)) (pS Q.1) (lN (c8 (tkW (nxt L B t)))))) a 4 (nI (pS Q.1 + 1)) := ⟨_, rfl⟩
      have s2 : Sm (hIa a) (fJ a) M M2 := by rw [hM2]; exact smW0 ((b2.fi2 a).uJ _ (by simp [fJ])) _ _
      rw [← hM2] at h2
      have w2 := h2.1
      obtain ⟨M3, d1, d2, d3⟩ := h2.take
      have w3 := d3.1
      rw [x1, x2, cI_some, if_neg (by decide), aO_22 w1, aO_22 w1, r_22_0 w1, aO_2 w1, r11, pn1.1.oP w1, tk1.2.2.2.1 (isN_2 x3), S7_addState w1 pn1.1 lt5, cV_some, ← hM2, aO_22 w2, r_22_0 w2, aO_2 w2, d1, cV_some, aO_22 w3]
      rcases S8_readsSemicolon d3 with ⟨e, M', y1, y2, y3, y4⟩ | ⟨t', M', y1, y2, y3, y4⟩
      · have y1' : semiA L B (nxt L B (nxt L B t)) = .inl e := y1
        rw [y2, cI_some, gd_e (.inl rfl)]
        refine .inl ⟨e, M', ?_, rfl, (s2.trans (d2.fi2 a)).gw.trans (y3.fi22 a), y4⟩
        simp only [y1']
      · have y1' : semiA L B (nxt L B (nxt L B t)) = .inr t' := y1
        rw [y2, cI_some, gd_e (.inr rfl)]
        refine .inr ⟨_, t', M', ?_, rfl, (s2.trans (d2.fi2 a)).trans (y3.fi2 a), y4⟩
        simp only [y1']
theorem S8_readsSign {M : MM} (h : RdC M a L B Q t) : LnC (f8_readsSign M 22) M a L B (signA L B Q t) := by
  obtain ⟨w, tp, tk, g, r1, pn, wq⟩ := id h
  have p5 := wq.1.2.1
  unfold f8_readsSign signA
  rw [aO_22 w, r1, pn.1.oP w, pn.1.2.2.1]
  by_cases c : 6 ≤ pG Q.1
  · obtain ⟨M', a1, a2, a3⟩ := S8_fail w tk 5
    rw [if_pos c, if_neg (show ¬ nI (pG Q.1) < 6 by rw [show (6 : Int32) = nI 6 from rfl, c_lt (by omega) (by omega)]; omega), aO_22 w, show (5 : Int32) = nI 5 from rfl, a1, cI_some, gd_e (.inl rfl)]
    exact .inl ⟨_, M', rfl, rfl, a2.fi22 a, a3⟩
  · obtain ⟨M1, b1, b2, b3⟩ := h.take
    obtain ⟨w1, tp1, tk1, g1, r11, pn1, -⟩ := id b3
    rw [if_neg c, if_pos (show nI (pG Q.1) < 6 by rw [show (6 : Int32) = nI 6 from rfl, c_lt (by omega) (by omega)]; omega), aO_22 w, r_22_0 w, aO_2 w, b1, cV_some, aO_22 w1]
    rcases S8_isNewName b3 with ⟨e, M', x1, x2, x3, x4⟩ | ⟨x1, x2, x3⟩
    · rw [x1, x2, cI_some, if_pos rfl]
      exact .inl ⟨_, M', rfl, rfl, (b2.fi2 a).gw.trans (x3.fi22 a), x4⟩
    · have v := g1.2.2.2.2.1 (isN_2 x3)
      have lt5 : pG Q.1 < 6 := by omega
      have h2 := b3.addG lt5 v
      obtain ⟨M2, hM2⟩ : ∃ M2, M2 = sI (uJ M1 (a + 4) (upx (mJ M1 (a + 4)) (pG Q.1) (lN (c8 (tkW (nxt L B t)))))) a 5 (nI (pG Q.1 + 1)) := ⟨_, rfl⟩
      have s2 : Sm (hIa a) (fJ a) M M2 := by rw [hM2]; exact smW0 ((b2.fi2 a).uJ _ (by simp [fJ])) _ _
      rw [← hM2] at h2
      have w2 := h2.1
      obtain ⟨M3, d1, d2, d3⟩ := h2.take
      have w3 := d3.1
      rw [x1, x2, cI_some, if_neg (by decide), aO_22 w1, aO_22 w1, r_22_0 w1, aO_2 w1, r11, pn1.1.oP w1, tk1.2.2.2.1 (isN_2 x3), S7_addSign w1 pn1.1 lt5, cV_some, ← hM2, aO_22 w2, r_22_0 w2, aO_2 w2, d1, cV_some, aO_22 w3]
      rcases S8_readsSemicolon d3 with ⟨e, M', y1, y2, y3, y4⟩ | ⟨t', M', y1, y2, y3, y4⟩
      · have y1' : semiA L B (nxt L B (nxt L B t)) = .inl e := y1
        rw [y2, cI_some, gd_e (.inl rfl)]
        refine .inl ⟨e, M', ?_, rfl, (s2.trans (d2.fi2 a)).gw.trans (y3.fi22 a), y4⟩
        simp only [y1']
      · have y1' : semiA L B (nxt L B (nxt L B t)) = .inr t' := y1
        rw [y2, cI_some, gd_e (.inr rfl)]
        refine .inr ⟨_, t', M', ?_, rfl, (s2.trans (d2.fi2 a)).trans (y3.fi2 a), y4⟩
        simp only [y1']
end LINEC
