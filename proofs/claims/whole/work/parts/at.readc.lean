/-! READING at the class: names, semicolons, lines of states and signs -/
section READC
variable {L : Nat} {B : Nat → Nat} {a : Nat} {Q : QG} {t : TK}
def fI (a : Nat) : List Nat := [2, 22, a, a + 6, a + 8]
def fJ (a : Nat) : List Nat := [2, a + 2, a + 4]
theorem m_22 (x : Nat) (h : x ∈ [22]) : x ∈ fI a := by unfold fI; rw [List.mem_singleton.mp h]; simp
theorem m_2 (x : Nat) (h : x ∈ [2]) : x ∈ fI a := by unfold fI; rw [List.mem_singleton.mp h]; simp
theorem m_2j (x : Nat) (h : x ∈ [2]) : x ∈ fJ a := by unfold fJ; rw [List.mem_singleton.mp h]; simp
theorem m_0 {l : List Nat} (x : Nat) (h : x ∈ ([] : List Nat)) : x ∈ l := by cases h
def fndJ (row : Nat → Int64) (x : Int64) : Nat → Nat → Int32
  | 0, _ => -1
  | d + 1, i => if row i = x then nI i else fndJ row x d (i + 1)
def fNo : Option Nat → Int32
  | none => -1
  | some k => nI k
theorem fndJ_e {row : Nat → Int64} {nm : Nat → List Nat} {w : List Nat} (hw : NmV w) : ∀ (d i : Nat), (∀ p, i ≤ p → p < i + d → row p = lN (c8 (nm p)) ∧ NmV (nm p)) → fndJ row (lN (c8 w)) d i = fNo (fnd nm w d i)
  | 0, _, _ => rfl
  | d + 1, i, h => by
    obtain ⟨h1, h2⟩ := h i (Nat.le_refl _) (by omega)
    have l1 := hw.c8
    have l2 := h2.c8
    show (if row i = lN (c8 w) then nI i else fndJ row (lN (c8 w)) d (i + 1)) = fNo (if nm i = w then some i else fnd nm w d (i + 1))
    by_cases c : nm i = w
    · rw [if_pos c, if_pos (by rw [h1, c])]
      rfl
    · rw [if_neg c, if_neg (fun z => c (c8_inj h2.1 hw.1 ((lN_eqN (by omega) (by omega)).mp (by rw [← h1]; exact z))))]
      exact fndJ_e hw d (i + 1) (fun p x1 x2 => h p (by omega) (by omega))
theorem RdC.a4 {M : MM} (h : RdC M a L B Q t) : a = 4 ∨ a = 13 := h.2.2.2.2.2.1.1.1
theorem L7_sn2 {M : MM} (w : Wl M) (pg : PgC M a Q.1) (hp : WP Q.1) (x : Int64) : ∀ (d i : Nat), i + d = pS Q.1 → ∀ f, d < f → LP4 f7_stateNamed_b2_body f M a x (nI i) = some (fndJ (mJ M (a + 2)) x d i, M)
  | 0, i, hi, f + 1, _ => by
    have p5 := hp.1
    rw [LP4_s]
    generalize LP4 f7_stateNamed_b2_body f = K
    unfold f7_stateNamed_b2_body
    rw [pg.oP w, pg.2.1, if_pos (nI_le (by omega) (by omega))]
    rfl
  | d + 1, i, hi, f + 1, hf => by
    have p5 := hp.1
    have ih := L7_sn2 w pg hp x d (i + 1) (by omega) f (by omega)
    show _ = some (if mJ M (a + 2) i = x then nI i else fndJ (mJ M (a + 2)) x d (i + 1), M)
    rw [LP4_s]
    generalize LP4 f7_stateNamed_b2_body f = K at ih ⊢
    unfold f7_stateNamed_b2_body
    rw [pg.oP w, pg.2.1, if_neg (nI_ge (by omega) (by omega)), pg.oP w]
    have gt : (aO M (mR M a 0) 4 <| cJ (f4_get M (mR M a 0) (nI i)) fun r15 M15 => if r15 = x then some (nI i, M15) else K M15 a x (nI i + (1 : Int32))) = if mJ M (a + 2) i = x then some (nI i, M) else K M a x (nI (i + 1)) := by
      rcases pg.1 with e | e
      · rw [e, r_4_0 w, aO_5 w, g_5 w, cJ_some, gJ_in (by omega) (by omega), nI_1]
      · rw [e, r_13_0 w, aO_14 w, g_14 w, cJ_some, gJ_in (by omega) (by omega), nI_1]
    rw [gt]
    by_cases c : mJ M (a + 2) i = x
    · rw [if_pos c, if_pos c]
    · rw [if_neg c, if_neg c, ih]
theorem S7_stateNamed {M : MM} (w : Wl M) (pg : PgC M a Q.1) (hp : WP Q.1) (x : Int64) : f7_stateNamed M a x = some (fndJ (mJ M (a + 2)) x (pS Q.1) 0, M) := L7_sn2 w pg hp x (pS Q.1) 0 (by omega) FU (FU_big (by have := hp.1; omega))
theorem L7_gn2 {M : MM} (w : Wl M) (pg : PgC M a Q.1) (hp : WP Q.1) (x : Int64) : ∀ (d i : Nat), i + d = pG Q.1 → ∀ f, d < f → LP4 f7_signNamed_b2_body f M a x (nI i) = some (fndJ (mJ M (a + 4)) x d i, M)
  | 0, i, hi, f + 1, _ => by
    have p5 := hp.2.1
    rw [LP4_s]
    generalize LP4 f7_signNamed_b2_body f = K
    unfold f7_signNamed_b2_body
    rw [pg.oP w, pg.2.2.1, if_pos (nI_le (by omega) (by omega))]
    rfl
  | d + 1, i, hi, f + 1, hf => by
    have p5 := hp.2.1
    have ih := L7_gn2 w pg hp x d (i + 1) (by omega) f (by omega)
    show _ = some (if mJ M (a + 4) i = x then nI i else fndJ (mJ M (a + 4)) x d (i + 1), M)
    rw [LP4_s]
    generalize LP4 f7_signNamed_b2_body f = K at ih ⊢
    unfold f7_signNamed_b2_body
    rw [pg.oP w, pg.2.2.1, if_neg (nI_ge (by omega) (by omega)), pg.oP w]
    have gt : (aO M (mR M a 1) 4 <| cJ (f4_get M (mR M a 1) (nI i)) fun r15 M15 => if r15 = x then some (nI i, M15) else K M15 a x (nI i + (1 : Int32))) = if mJ M (a + 4) i = x then some (nI i, M) else K M a x (nI (i + 1)) := by
      rcases pg.1 with e | e
      · rw [e, r_4_1 w, aO_7 w, g_7 w, cJ_some, gJ_in (by omega) (by omega), nI_1]
      · rw [e, r_13_1 w, aO_16 w, g_16 w, cJ_some, gJ_in (by omega) (by omega), nI_1]
    rw [gt]
    by_cases c : mJ M (a + 4) i = x
    · rw [if_pos c, if_pos c]
    · rw [if_neg c, if_neg c, ih]
theorem S7_signNamed {M : MM} (w : Wl M) (pg : PgC M a Q.1) (hp : WP Q.1) (x : Int64) : f7_signNamed M a x = some (fndJ (mJ M (a + 4)) x (pG Q.1) 0, M) := L7_gn2 w pg hp x (pG Q.1) 0 (by omega) FU (FU_big (by have := hp.2.1; omega))
theorem PnC.sm {M M' : MM} (h : PnC M a Q) {Is Js : List Nat} (s : Sm Is Js M M') (hi : avd [4, 10, 12, 13, 19, 21] Is = true) (hj : avd [6, 8, 15, 17] Js = true) : PnC M' a Q := by
  refine ⟨h.1.sm s hi, ?_, ?_⟩
  · rcases h.1.1 with e | e <;> subst e
    · rw [s.j (4 + 2) (avd_n hj (by decide))]; exact h.2.1
    · rw [s.j (13 + 2) (avd_n hj (by decide))]; exact h.2.1
  · rcases h.1.1 with e | e <;> subst e
    · rw [s.j (4 + 4) (avd_n hj (by decide))]; exact h.2.2
    · rw [s.j (13 + 4) (avd_n hj (by decide))]; exact h.2.2
theorem RdC.nx {M M' : MM} {t' : TK} (h : RdC M a L B Q t) (s : Sm [2] [2] M M') (tp : TpC M' L B) (tk : TkC M' t') (g : TkG L t') : RdC M' a L B Q t' := ⟨h.1.sm s, tp, tk, g, by rw [s.r]; exact h.2.2.2.2.1, h.2.2.2.2.2.1.sm s (by decide) (by decide), h.2.2.2.2.2.2⟩
/-- the next token is taken -/
theorem RdC.take {M : MM} (h : RdC M a L B Q t) : ∃ M', f9_takeNext M 2 = some M' ∧ Sm [2] [2] M M' ∧ RdC M' a L B Q (nxt L B t) := by
  obtain ⟨w, tp, tk, g, -⟩ := id h
  obtain ⟨M', k1, k2, k3, k4⟩ := S9_takeNext w tp g.1 tk.1
  exact ⟨M', k1, k2, h.nx k2 k3 k4 g.nx⟩
theorem S8_takeNamed {M : MM} (h : RdC M a L B Q t) {nm : Nat → List Nat} {n : Nat} {r : Int32} (hr : isN t = true → r = fNo (fnd nm (tkW t) n 0)) (hn : n ≤ 6) : (∃ e M', takeN L B nm n t = .inl e ∧ f8_takeNamed M 22 r = some (-1, M') ∧ Sm [22] [] M M' ∧ FtC M' e) ∨ (∃ k t' M', takeN L B nm n t = .inr (k, t') ∧ f8_takeNamed M 22 r = some (nI k, M') ∧ Sm [2] [2] M M' ∧ RdC M' a L B Q t' ∧ k < n) := by
  obtain ⟨w, tp, tk, g, -⟩ := id h
  unfold f8_takeNamed takeN
  rw [aO_22 w, r_22_0 w, aO_2 w, S9_isName w tk g, cI_some]
  by_cases c : isN t = true
  · rw [if_pos c, c, if_neg (show ¬ bI true = 0 by decide), hr c]
    cases q : fnd nm (tkW t) n 0 with
    | none =>
      obtain ⟨M', a1, a2, a3⟩ := S8_fail w tk 3
      refine .inl ⟨_, M', rfl, ?_, a2, a3⟩
      rw [if_pos (show fNo none = -1 from rfl), aO_22 w, show (3 : Int32) = nI 3 from rfl, a1, cI_some]
    | some k =>
      have lt := (fnd_lt q).2
      obtain ⟨M', a1, a2, a3⟩ := h.take
      refine .inr ⟨k, nxt L B t, M', rfl, ?_, a2, a3, by omega⟩
      rw [if_neg (show ¬ fNo (some k) = -1 from nI_neM (by omega)), aO_22 w, r_22_0 w, aO_2 w, a1, cV_some]
      rfl
  · rw [if_neg c]
    rw [Bool.not_eq_true] at c
    obtain ⟨M', a1, a2, a3⟩ := S8_refuse w tk g
    refine .inl ⟨_, M', rfl, ?_, a2, a3⟩
    rw [c, if_pos (show bI false = 0 from rfl), aO_22 w, a1, cI_some]
theorem S8_takeS {M : MM} (h : RdC M a L B Q t) : ∃ r, f7_stateNamed M a (mJ M 2 5) = some (r, M) ∧ ((∃ e M', takeN L B Q.2.1 (pS Q.1) t = .inl e ∧ f8_takeNamed M 22 r = some (-1, M') ∧ Sm [22] [] M M' ∧ FtC M' e) ∨ (∃ k t' M', takeN L B Q.2.1 (pS Q.1) t = .inr (k, t') ∧ f8_takeNamed M 22 r = some (nI k, M') ∧ Sm [2] [2] M M' ∧ RdC M' a L B Q t' ∧ k < pS Q.1)) := by
  obtain ⟨w, tp, tk, g, -, pn, wq⟩ := id h
  have p5 := wq.1.1
  refine ⟨_, S7_stateNamed w pn.1 wq.1 _, S8_takeNamed h (fun c => ?_) (by omega)⟩
  rw [tk.2.2.2.1 (isN_2 c)]
  exact fndJ_e (g.2.2.2.2.1 (isN_2 c)) _ _ (fun p x1 x2 => ⟨pn.2.1 p (by omega), wq.2.1 p (by omega)⟩)
theorem S8_takeG {M : MM} (h : RdC M a L B Q t) : ∃ r, f7_signNamed M a (mJ M 2 5) = some (r, M) ∧ ((∃ e M', takeN L B Q.2.2 (pG Q.1) t = .inl e ∧ f8_takeNamed M 22 r = some (-1, M') ∧ Sm [22] [] M M' ∧ FtC M' e) ∨ (∃ k t' M', takeN L B Q.2.2 (pG Q.1) t = .inr (k, t') ∧ f8_takeNamed M 22 r = some (nI k, M') ∧ Sm [2] [2] M M' ∧ RdC M' a L B Q t' ∧ k < pG Q.1)) := by
  obtain ⟨w, tp, tk, g, -, pn, wq⟩ := id h
  have p5 := wq.1.2.1
  refine ⟨_, S7_signNamed w pn.1 wq.1 _, S8_takeNamed h (fun c => ?_) (by omega)⟩
  rw [tk.2.2.2.1 (isN_2 c)]
  exact fndJ_e (g.2.2.2.2.1 (isN_2 c)) _ _ (fun p x1 x2 => ⟨pn.2.2 p (by omega), wq.2.2 p (by omega)⟩)
theorem S8_readsSemicolon {M : MM} (h : RdC M a L B Q t) : (∃ e M', semiA L B t = .inl e ∧ f8_readsSemicolon M 22 = some (0, M') ∧ Sm [22] [] M M' ∧ FtC M' e) ∨ (∃ t' M', semiA L B t = .inr t' ∧ f8_readsSemicolon M 22 = some (1, M') ∧ Sm [2] [2] M M' ∧ RdC M' a L B Q t') := by
  obtain ⟨w, tp, tk, g, -⟩ := id h
  have k4 := g.2.2.2.1
  unfold f8_readsSemicolon semiA
  rw [aO_22 w, r_22_0 w, aO_2 w, tk.2.1]
  by_cases c : tkK t = 4
  · obtain ⟨M', a1, a2, a3⟩ := h.take
    refine .inr ⟨_, M', by rw [if_pos c], ?_, a2, a3⟩
    rw [if_pos (show nI (tkK t) = 4 by rw [c]; rfl), aO_22 w, aO_2 w, a1, cV_some]
  · obtain ⟨M', a1, a2, a3⟩ := S8_refuse w tk g
    refine .inl ⟨_, M', by rw [if_neg c], ?_, a2, a3⟩
    rw [if_neg (show ¬ nI (tkK t) = 4 by rw [show (4 : Int32) = nI 4 from rfl, nI_eq (by omega) (by omega)]; exact c), aO_22 w, a1, cI_some, gd_e (.inl rfl)]
theorem fNo_none {o : Option Nat} (h : ∀ k, o = some k → k < 100) : (fNo o = -1) ↔ o.isSome = false := by
  cases o with
  | none => exact ⟨fun _ => rfl, fun _ => rfl⟩
  | some k =>
    have := h k rfl
    exact ⟨fun z => absurd z (nI_neM (by omega)), (fun z => by cases z)⟩
theorem S8_isNewName {M : MM} (h : RdC M a L B Q t) : (∃ e M', newA Q t = .inl e ∧ f8_isNewName M 22 = some (0, M') ∧ Sm [22] [] M M' ∧ FtC M' e) ∨ (newA Q t = .inr () ∧ f8_isNewName M 22 = some (1, M) ∧ isN t = true) := by
  obtain ⟨w, tp, tk, g, r1, pn, wq⟩ := id h
  have p5 := wq.1.1
  have g6 := wq.1.2.1
  unfold f8_isNewName newA
  rw [aO_22 w, r_22_0 w, aO_2 w, S9_isName w tk g, cI_some]
  by_cases c : isN t = true
  · have v := g.2.2.2.2.1 (isN_2 c)
    have eS : fndJ (mJ M (a + 2)) (mJ M 2 5) (pS Q.1) 0 = fNo (fnd Q.2.1 (tkW t) (pS Q.1) 0) := by
      rw [tk.2.2.2.1 (isN_2 c)]
      exact fndJ_e v _ _ (fun p x1 x2 => ⟨pn.2.1 p (by omega), wq.2.1 p (by omega)⟩)
    have eG : fndJ (mJ M (a + 4)) (mJ M 2 5) (pG Q.1) 0 = fNo (fnd Q.2.2 (tkW t) (pG Q.1) 0) := by
      rw [tk.2.2.2.1 (isN_2 c)]
      exact fndJ_e v _ _ (fun p x1 x2 => ⟨pn.2.2 p (by omega), wq.2.2 p (by omega)⟩)
    have nS := fNo_none (o := fnd Q.2.1 (tkW t) (pS Q.1) 0) (fun k z => by have := fnd_lt z; omega)
    have nG := fNo_none (o := fnd Q.2.2 (tkW t) (pG Q.1) 0) (fun k z => by have := fnd_lt z; omega)
    rw [if_pos c, c, if_neg (show ¬ bI true = 0 by decide), aO_22 w, aO_22 w, r_22_0 w, aO_2 w, r1, pn.1.oP w, S7_stateNamed w pn.1 wq.1, cI_some, eS]
    obtain ⟨M', a1, a2, a3⟩ := S8_fail w tk 3
    have bad : (f8_isNewName_b51 f8_isNewName_b56) M 22 = some (0, M') := by
      unfold f8_isNewName_b51 f8_isNewName_b56
      rw [if_neg (by decide), aO_22 w, show (3 : Int32) = nI 3 from rfl, a1, cI_some, gd_e (.inl rfl)]
    cases q : (fnd Q.2.1 (tkW t) (pS Q.1) 0).isSome with
    | true =>
      refine .inl ⟨_, M', by rw [if_pos (.inl rfl)], ?_, a2, a3⟩
      rw [if_neg (fun z => by rw [nS.mp z] at q; cases q), bad]
    | false =>
      rw [if_pos (nS.mpr q), aO_22 w, aO_22 w, r_22_0 w, aO_2 w, r1, pn.1.oP w, S7_signNamed w pn.1 wq.1, cI_some, eG]
      cases q2 : (fnd Q.2.2 (tkW t) (pG Q.1) 0).isSome with
      | true =>
        refine .inl ⟨_, M', by rw [if_pos (.inr rfl)], ?_, a2, a3⟩
        rw [if_neg (fun z => by rw [nG.mp z] at q2; cases q2), bad]
      | false =>
        refine .inr ⟨by rw [if_neg (fun z => by rcases z with z | z <;> cases z)], ?_, rfl⟩
        rw [if_pos (nG.mpr q2)]
        unfold f8_isNewName_b56
        rw [if_pos rfl]
  · rw [if_neg c]
    rw [Bool.not_eq_true] at c
    obtain ⟨M', a1, a2, a3⟩ := S8_refuse w tk g
    refine .inl ⟨_, M', rfl, ?_, a2, a3⟩
    rw [c, if_pos (show bI false = 0 from rfl), aO_22 w, a1, cI_some, gd_e (.inl rfl)]
end READC
