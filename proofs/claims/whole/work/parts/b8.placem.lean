/-! the reference reads a place -/
section PLACEM
variable {P : PG} {o : Nat} {nw : NW} {L : Nat} {B : Nat → Nat} {Q : QG} {t : TK} {e : Nat × Nat}
theorem TsM.s93 {M M' : MM} {b : Nat} (h : TsM M b L B Q t) (s : Sm [93] [] M M') : TsM M' b L B Q t := by
  obtain ⟨w, tp, tk, g, z, pn, wq⟩ := h
  refine ⟨w.sm s, ?_, ?_, g, by rw [s.i 86 (by decide)]; exact z, pn.sm s (by decide), wq⟩
  · unfold TpM
    rw [s.i 86 (by decide), s.i 91 (by decide)]
    exact tp
  · unfold TkM
    rw [s.i 86 (by decide)]
    exact tk
theorem bd_77 {M : MM} (h : BdM M e) (p x : Int32) : ∃ M', f12_at_b77 M 86 p x = some (-1, M') ∧ Sm [86] [] M M' ∧ (∀ j, j ≠ 13 → j ≠ 14 → mI M' 86 j = mI M 86 j) ∧ mI M' 86 13 = nI e.1 ∧ mI M' 86 14 = nI e.2 := by
  obtain ⟨M', a1, a2⟩ := b_ends h
  refine ⟨M', ?_, a2⟩
  unfold f12_at_b77
  rw [aO_86 h.1, a1, cI_some, if_pos rfl]
theorem bd_18 {M : MM} (h : BdM M e) (f : Nat) (p x : Int32) : LP4 f12_at_b18_body (f + 1) M 86 p x = f12_at_b77 M 86 p x := by
  rw [LP4_s]
  generalize LP4 f12_at_b18_body f = K
  unfold f12_at_b18_body
  rw [aO_86 h.1, b_isGood h, cI_some, if_pos rfl]
theorem LM_at18 {M0 : MM} {p : Nat} : ∀ (m n : Nat), n + m = 40 → ∀ f, m + 1 < f → ∀ M t s, Sm [86, 93] [] M0 M → (∀ j, gF j → mI M 86 j = mI M0 86 j) → TsM M 0 L B Q t → (∀ i, i < n → mI M 93 i = nI (s i)) → (∃ e M' x, plA L B Q.2.2 (pG Q.1) m t = .inl e ∧ LP4 f12_at_b18_body f M 86 (nI p) (nI n) = f12_at_b77 M' 86 (nI p) x ∧ Sm [86, 93] [] M0 M' ∧ (∀ j, gF j → mI M' 86 j = mI M0 86 j) ∧ BdM M' e) ∨ (∃ l t' M', plA L B Q.2.2 (pG Q.1) m t = .inr l ∧ LP4 f12_at_b18_body f M 86 (nI p) (nI n) = f12_at_b77 M' 86 (nI p) (nI (n + l.length)) ∧ Sm [86, 93] [] M0 M' ∧ (∀ j, gF j → mI M' 86 j = mI M0 86 j) ∧ TsM M' 0 L B Q t' ∧ ∀ i, i < n + l.length → mI M' 93 i = nI (pshL n s l i))
  | m, n, hn, 0, hf, _, _, _, _, _, _, _ => absurd hf (Nat.not_lt_zero _)
  | m, n, hn, f + 1, hf, M, t, s, sm, fr, h, hk => by
    obtain ⟨w, tp, tk, g, z, pn, wq⟩ := id h
    have k4 := g.2.2.2.1
    have good := g_isGood h
    have name := SM_isName h
    by_cases c : tkK t = 0
    · have hd : LP4 f12_at_b18_body (f + 1) M 86 (nI p) (nI n) = f12_at_b77 M 86 (nI p) (nI n) := by
        rw [LP4_s]
        generalize LP4 f12_at_b18_body f = K
        unfold f12_at_b18_body
        rw [aO_86 w, good, cI_some, if_neg (show ¬ (1 : Int32) = 0 by decide), aO_86 w, tk.2.1, if_pos ((kmm_0 t k4).mpr c)]
      have pa : plA L B Q.2.2 (pG Q.1) m t = .inr [] := by
        cases m with
        | zero => exact if_pos c
        | succ m => exact if_pos c
      rw [hd, pa]
      exact .inr ⟨[], t, M, rfl, rfl, sm, fr, h, fun i hi => by
        have hi' : i < n := hi
        rw [pshL_nil i hi']
        exact hk i hi'⟩
    · have hd : ∀ K, f12_at_b18_body K M 86 (nI p) (nI n) = if bI (isN t) = 0 then f12_at_b50 K M 86 (nI p) (nI n) else if nI n = (40 : Int32) then (aO M 86 12 <| cV (f12_fails M 86 (2 : Int32)) fun M47 => f12_at_b50 K M47 86 (nI p) (nI n)) else f12_at_b50 K M 86 (nI p) (nI n) := fun K => by
        unfold f12_at_b18_body
        rw [aO_86 w, good, cI_some, if_neg (show ¬ (1 : Int32) = 0 by decide), aO_86 w, tk.2.1, if_neg (show ¬ nI (kmm (tkK t)) = 0 from fun q => c ((kmm_0 t k4).mp q)), aO_86 w, name, cI_some]
      obtain ⟨f', hf'⟩ : ∃ f', f = f' + 1 := ⟨f - 1, by omega⟩
      have bad50 : ∀ {X : MM} {e : Nat × Nat}, BdM X e → f12_at_b50 (LP4 f12_at_b18_body f) X 86 (nI p) (nI n) = f12_at_b77 X 86 (nI p) (nI n) := fun {X e} b => by
        rw [hf']
        have := bd_18 b f' (nI p) (nI n)
        generalize LP4 f12_at_b18_body (f' + 1) = K at this ⊢
        unfold f12_at_b50 f12_at_b74
        rw [aO_86 b.1, b_oneOf b, cI_some, aO_86 b.1, b_isGood b, cI_some, if_pos rfl]
        exact this
      rcases m with _ | m
      · have e40 : n = 40 := by omega
        have pa : plA L B Q.2.2 (pG Q.1) 0 t = .inl (refA t) := if_neg c
        by_cases cn : isN t = true
        · obtain ⟨M1, a1, a2, a3, a4⟩ := g_fails h (k := 2) (by omega) (by omega)
          refine .inl ⟨refA t, M1, nI n, pa, ?_, sm.trans (a4.more (by decide) (by decide)), fun j hj => (a2.2.1 j hj).trans (fr j hj), a3⟩
          rw [LP4_s, hd, cn, if_neg (show ¬ bI true = 0 by decide), if_pos (show nI n = 40 by rw [e40]; rfl), aO_86 w, show (2 : Int32) = nI 2 from rfl, a1, cV_some]
          exact bad50 a3
        · rw [Bool.not_eq_true] at cn
          rcases SM_oneOf h (s := 1) (by decide) with ⟨e, M1, x1, x2, x3, x4, x5⟩ | ⟨k, t1, M1, x1, -⟩
          · have pe : takeN L B (NmS Q 1).1 (NmS Q 1).2 t = .inl (refA t) := by
              unfold takeN
              rw [if_neg (by rw [cn]; decide)]
            rw [pe] at x1
            cases x1
            refine .inl ⟨refA t, M1, nI n, pa, ?_, sm.trans (x4.more (by decide) (by decide)), fun j hj => (x3.2.1 j hj).trans (fr j hj), x5⟩
            rw [LP4_s, hd, cn, if_pos (show bI false = 0 from rfl)]
            rw [hf']
            have := bd_18 x5 f' (nI p) (nI n)
            generalize LP4 f12_at_b18_body (f' + 1) = K at this ⊢
            unfold f12_at_b50 f12_at_b74
            rw [aO_86 w, show (0 : Int32) = nI 0 from rfl, show (1 : Int32) = nI 1 from rfl, x2, cI_some, aO_86 x5.1, b_isGood x5, cI_some, if_pos (show (0 : Int32) = nI 0 from rfl)]
            exact this
          · have pe : takeN L B (NmS Q 1).1 (NmS Q 1).2 t = .inl (refA t) := by
              unfold takeN
              rw [if_neg (by rw [cn]; decide)]
            rw [pe] at x1
            cases x1
      · have lt40 : n < 40 := by omega
        have to50 : LP4 f12_at_b18_body (f + 1) M 86 (nI p) (nI n) = f12_at_b50 (LP4 f12_at_b18_body f) M 86 (nI p) (nI n) := by
          rw [LP4_s, hd]
          by_cases cn : bI (isN t) = 0
          · rw [if_pos cn]
          · rw [if_neg cn, if_neg (show ¬ nI n = 40 by rw [show (40 : Int32) = nI 40 from rfl, c_eq (by omega) (by omega)]; omega)]
        have pa : plA L B Q.2.2 (pG Q.1) (m + 1) t = match takeN L B Q.2.2 (pG Q.1) t with | .inl e => .inl e | .inr (k, t1) => match plA L B Q.2.2 (pG Q.1) m t1 with | .inl e => .inl e | .inr l => .inr (k :: l) := if_neg c
        rw [to50, pa]
        rcases SM_oneOf h (s := 1) (by decide) with ⟨e, M1, x1, x2, x3, x4, x5⟩ | ⟨k, t1, M1, x1, x2, x3, x4, x5, x6⟩
        · have x1' : takeN L B Q.2.2 (pG Q.1) t = .inl e := x1
          refine .inl ⟨e, M1, nI n, by simp only [x1'], ?_, sm.trans (x4.more (by decide) (by decide)), fun j hj => (x3.2.1 j hj).trans (fr j hj), x5⟩
          rw [hf']
          have := bd_18 x5 f' (nI p) (nI n)
          generalize LP4 f12_at_b18_body (f' + 1) = K at this ⊢
          unfold f12_at_b50 f12_at_b74
          rw [aO_86 w, show (0 : Int32) = nI 0 from rfl, show (1 : Int32) = nI 1 from rfl, x2, cI_some, aO_86 x5.1, b_isGood x5, cI_some, if_pos (show (0 : Int32) = nI 0 from rfl)]
          exact this
        · have x1' : takeN L B Q.2.2 (pG Q.1) t = .inr (k, t1) := x1
          have w1 := x5.1
          obtain ⟨M2, hM2⟩ : ∃ M2, M2 = uI M1 93 (upx (mI M1 93) n (nI k)) := ⟨_, rfl⟩
          have s2 : Sm [93] [] M1 M2 := by rw [hM2]; exact (Sm.rfl _ _ M1).uI _ (by decide)
          have h2 := x5.s93 s2
          have st : f12_at_b50 (LP4 f12_at_b18_body f) M 86 (nI p) (nI n) = LP4 f12_at_b18_body f M2 86 (nI p) (nI (n + 1)) := by
            generalize LP4 f12_at_b18_body f = K
            unfold f12_at_b50 f12_at_b74
            rw [aO_86 w, show (0 : Int32) = nI 0 from rfl, show (1 : Int32) = nI 1 from rfl, x2, cI_some, aO_86 w1, g_isGood x5, cI_some, if_neg (show ¬ (1 : Int32) = nI 0 by decide), aO_86 w1, r_86_18 w1, aA_93 w1 (by omega), bM_e, sI_e, nI_clamp (by omega), ← hM2, nI_add]
          rw [st]
          rcases LM_at18 m (n + 1) (by omega) f (by omega) M2 t1 (upx s n k) ((sm.trans (x4.more (by decide) (by decide))).trans (s2.more (by decide) (by decide))) (fun j hj => by rw [s2.i 86 (by decide)]; exact (x3.2.1 j hj).trans (fr j hj)) h2 (fun i hi => by
            rw [hM2, mI_uI, if_pos rfl, upx_e, upx_e]
            by_cases q : i = n
            · rw [if_pos q, if_pos q]
            · rw [if_neg q, if_neg q, x4.i 93 (by decide)]
              exact hk i (by omega)) with ⟨e, M', x, v1, v2, v3⟩ | ⟨l, t', M', v1, v2, v3, v4, v5, v6⟩
          · exact .inl ⟨e, M', x, by simp only [x1', v1], v2, v3⟩
          · have e1 : n + 1 + l.length = n + (k :: l).length := by
              show n + 1 + l.length = n + (l.length + 1)
              omega
            rw [e1] at v2 v6
            rw [pshL_cons] at v6
            exact .inr ⟨k :: l, t', M', by simp only [x1', v1], v2, v3, v4, v5, v6⟩
theorem LM_at107 {M0 : MM} (w0 : Wl M0) {n : Nat} (hn : n ≤ 40) {s : Nat → Nat} (hk : ∀ i, i < n → mI M0 93 i = nI (s i)) : ∀ (d i : Nat), i + d = n → ∀ f, d < f → ∀ M, Sm [92] [] M0 M → (∀ j, j < n → n - 1 - j < i → mI M 92 j = nI (s (n - 1 - j))) → ∃ M', LP4 f12_at_b107_body f M 86 (nI n) (nI i) = some (nI n, M') ∧ Sm [92] [] M0 M' ∧ ∀ j, j < n → mI M' 92 j = nI (s (n - 1 - j))
  | 0, i, hi, f + 1, _, M, sm, h => by
    have e : i = n := by omega
    refine ⟨M, ?_, sm, fun j hj => h j hj (by omega)⟩
    rw [LP4_s]
    generalize LP4 f12_at_b107_body f = K
    unfold f12_at_b107_body
    rw [if_pos (show nI n ≤ nI i by rw [e]; exact nI_le (Nat.le_refl _) (by omega))]
  | d + 1, i, hi, f + 1, hf, M, sm, h => by
    have w := w0.sm sm
    obtain ⟨M1, hM1⟩ : ∃ M1, M1 = uI M 92 (upx (mI M 92) (n - 1 - i) (nI (s i))) := ⟨_, rfl⟩
    have s1 : Sm [92] [] M M1 := by rw [hM1]; exact (Sm.rfl _ _ M).uI _ (by decide)
    obtain ⟨M', k1, k2⟩ := LM_at107 w0 hn hk d (i + 1) (by omega) f (by omega) M1 (sm.trans s1) (fun j hj hj2 => by
      rw [hM1, mI_uI, if_pos rfl, upx_e]
      by_cases q : j = n - 1 - i
      · rw [if_pos q, show n - 1 - j = i by omega]
      · rw [if_neg q]
        exact h j hj (by omega))
    refine ⟨M', ?_, k2⟩
    have e93 : mI M 93 i = nI (s i) := by rw [sm.i 93 (by decide)]; exact hk i (by omega)
    rw [← k1, LP4_s]
    generalize LP4 f12_at_b107_body f = K
    unfold f12_at_b107_body
    rw [if_neg (nI_ge (by omega) (by omega)), aO_86 w, aO_86 w, r_86_18 w, r_86_17 w, aA_93 w (by omega), nI_sub1 (by omega), nI_subN (by omega), aA_92 w (by omega), bM_e, sI_e, nI_clamp (by omega), nI_clamp (by omega), e93, ← hM1, nI_1]
def AmI : List Nat := [86, 92, 93, 94]
theorem SM_at {M : MM} {n : Nat} {A : Nat → NW × Nat} (h : ReM M P o nw Q) (ta : TaM M L B) (ha : ActM M n A) (hA : ActW P n A) : (∃ e M', placeA L B Q (tok L B 0) = .inl e ∧ f12_at M 86 = some (-1, M') ∧ Sm AmI [] M M' ∧ ReM M' P o nw Q ∧ ActM M' n A ∧ mI M' 86 13 = nI e.1 ∧ mI M' 86 14 = nI e.2 ∧ mI M' 86 7 = 0) ∨ (∃ p l M', placeA L B Q (tok L B 0) = .inr (p, l) ∧ f12_at M 86 = some (nI l.length, M') ∧ Sm AmI [] M M' ∧ ReM M' P o (some (p, l.length, fun i => l.getD (l.length - 1 - i) 0)) Q ∧ ActM M' (kpN n) (kpA n A (nw, o)) ∧ mI M' 86 13 = 0 ∧ mI M' 86 14 = -1 ∧ mI M' 86 7 = 0) := by
  obtain ⟨⟨⟨w, wp, o14, pg, hm, wn, sz⟩, tol, mac⟩, eP, pn, wq⟩ := h
  obtain ⟨M0, hM0⟩ : ∃ M0, M0 = sI M 86 0 0 := ⟨_, rfl⟩
  have s0 : Sm [86] [] M M0 := by rw [hM0]; exact th_sm
  have f0 : ∀ j, j ≠ 0 → mI M0 86 j = mI M 86 j := fun j hj => by rw [hM0]; exact th_f hj
  have w0 : Wl M0 := w.sm s0
  have ta0 : TaM M0 L B := ⟨by rw [f0 7 (by decide)]; exact ta.1, ta.2.1, fun i hi => by rw [s0.i 91 (by decide)]; exact ta.2.2 i hi⟩
  obtain ⟨M1, b1, b2, b3, b4, b5⟩ := SM_begins w0 ta0 (pn.sm s0 (by decide)) wq
  have w1 := w0.sm b2
  -- what stays of the fields
  have keepF : ∀ {X : MM}, (∀ j, gF j → mI X 86 j = mI M1 86 j) → ∀ j, j = 5 ∨ j = 19 ∨ j = 20 ∨ j = 21 ∨ j = 23 ∨ j = 31 ∨ j = 47 ∨ j = 48 ∨ j = 49 → mI X 86 j = mI M 86 j := fun {X} hX j hj => by
    have tg : gF j := ⟨by unfold tF; omega, by omega, by omega⟩
    rw [hX j tg, b3 j ⟨by omega, by omega, tg⟩, f0 j (by omega)]
  have g7 : gF 7 := ⟨by unfold tF; omega, by omega, by omega⟩
  have hd : f12_at M 86 = cI (f12_oneOf M1 86 (0 : Int32) (0 : Int32)) fun r12 M12 => f12_at_b18 M12 86 r12 (0 : Int32) := by
    unfold f12_at
    rw [aO_86 w, bM_e, ← hM0, aO_86 w0, b1, cV_some, aO_86 w1]
  have stays : ∀ {X : MM}, Sm [86, 93] [] M X → (∀ j, j = 5 ∨ j = 19 ∨ j = 20 ∨ j = 21 ∨ j = 23 ∨ j = 31 ∨ j = 47 ∨ j = 48 ∨ j = 49 → mI X 86 j = mI M 86 j) → ReM X P o nw Q ∧ ActM X n A := fun {X} sX fX => by
    have pnX := pn.sm sX (by decide)
    have pgX : PgM X P o := by
      rw [← eP]
      exact PgM.bank pnX (by rw [fX 5 (by omega)]; exact pg.1)
    refine ⟨⟨⟨⟨w.sm sX, wp, o14, pgX, hm.sm sX (fun j h1 h2 => fX j (by omega)) (by decide), wn, ?_⟩, ?_, mac.sm sX (fX 47 (by omega)) (fX 48 (by omega)) (fX 49 (by omega)) (by decide)⟩, eP, pnX, wq⟩, ha.sm sX (fX 23 (by omega)) (by decide)⟩
    · unfold SzM
      rw [sX.i 96 (by decide)]
      exact sz
    · unfold ToldOK at *
      rw [fX 31 (by omega), sX.j 99 (by decide)]
      exact tol
  have pa : placeA L B Q (tok L B 0) = match takeN L B Q.2.1 (pS Q.1) (tok L B 0) with | .inl e => .inl e | .inr (p, t1) => match plA L B Q.2.2 (pG Q.1) 40 t1 with | .inl e => .inl e | .inr l => .inr (p, l) := rfl
  -- a fault
  have bad : ∀ {X : MM} {e : Nat × Nat} {x y : Int32}, BdM X e → Sm [86, 93] [] M1 X → (∀ j, gF j → mI X 86 j = mI M1 86 j) → ∃ M', f12_at_b77 X 86 x y = some (-1, M') ∧ Sm AmI [] M M' ∧ ReM M' P o nw Q ∧ ActM M' n A ∧ mI M' 86 13 = nI e.1 ∧ mI M' 86 14 = nI e.2 ∧ mI M' 86 7 = 0 := fun {X e x y} b sX fX => by
    obtain ⟨M', y1, y2, y3, y4, y5⟩ := bd_77 b x y
    have sA : Sm [86, 93] [] M M' := (((s0.more (by decide) (by decide)).trans (b2.more (by decide) (by decide))).trans sX).trans (y2.more (by decide) (by decide))
    obtain ⟨z1, z2⟩ := stays sA (fun j hj => by rw [y3 j (by omega) (by omega)]; exact keepF fX j hj)
    exact ⟨M', y1, sA.more (by decide) (by decide), z1, z2, y4, y5, by rw [y3 7 (by decide) (by decide), fX 7 g7, b4]⟩
  rw [hd, pa]
  rcases SM_oneOf b5 (s := 0) (by decide) with ⟨e, M2, x1, x2, x3, x4, x5⟩ | ⟨k, t1, M2, x1, x2, x3, x4, x5, x6⟩
  · have x1' : takeN L B Q.2.1 (pS Q.1) (tok L B 0) = .inl e := x1
    obtain ⟨M', y1, y2⟩ := bad (x := -1) (y := 0) x5 (x4.more (by decide) (by decide)) x3.2.1
    refine .inl ⟨e, M', by simp only [x1'], ?_, y2⟩
    rw [show (0 : Int32) = nI 0 from rfl, x2, cI_some]
    obtain ⟨f', hf'⟩ : ∃ f', FU = f' + 1 := ⟨FU - 1, by have : 1 < FU := FU_big (by omega); omega⟩
    unfold f12_at_b18
    rw [hf', bd_18 x5]
    exact y1
  · have x1' : takeN L B Q.2.1 (pS Q.1) (tok L B 0) = .inr (k, t1) := x1
    have k5 : k < pS Q.1 := x6
    have hd2 : (cI (f12_oneOf M1 86 (0 : Int32) (0 : Int32)) fun r12 M12 => f12_at_b18 M12 86 r12 (0 : Int32)) = LP4 f12_at_b18_body FU M2 86 (nI k) (nI 0) := by
      rw [show (0 : Int32) = nI 0 from rfl, x2, cI_some]
      rfl
    rw [hd2]
    rcases LM_at18 (M0 := M1) (p := k) 40 0 rfl FU (FU_big (by omega)) M2 t1 (fun _ => 0) (x4.more (by decide) (by decide)) x3.2.1 x5 (fun i hi => absurd hi (Nat.not_lt_zero _)) with ⟨e, M3, x, v1, v2, v3, v4, v5⟩ | ⟨l, t2, M3, v1, v2, v3, v4, v5, v6⟩
    · obtain ⟨M', y1, y2⟩ := bad (x := nI k) (y := x) v5 v3 v4
      exact .inl ⟨e, M', by simp only [x1', v1], v2.trans y1, y2⟩
    · obtain ⟨l40, lg⟩ := plA_g x5.2.2.2.1 v1
      obtain ⟨M4, c1, c2, c3, c4, c5⟩ := g_ends v5
      have w3 := v5.1
      have w4 := w3.sm c2
      have s4 : Sm [86, 93] [] M M4 := (((s0.more (by decide) (by decide)).trans (b2.more (by decide) (by decide))).trans v3).trans (c2.more (by decide) (by decide))
      have f4 : ∀ j, j = 5 ∨ j = 19 ∨ j = 20 ∨ j = 21 ∨ j = 23 ∨ j = 31 ∨ j = 47 ∨ j = 48 ∨ j = 49 → mI M4 86 j = mI M 86 j := fun j hj => by rw [c3 j (by omega) (by omega)]; exact keepF v4 j hj
      obtain ⟨q1, q2⟩ := stays s4 f4
      obtain ⟨M5, d1, d2, d3, d4⟩ := SM_keep w4 q1.1.1.2.2.2.2.1 wn q1.1.1.2.2.2.1.1 q2 hA
      have w5 := w4.sm d2
      obtain ⟨M6, hM6⟩ : ∃ M6, M6 = sI (sI (sI M5 86 19 1) 86 20 (nI k)) 86 21 (nI l.length) := ⟨_, rfl⟩
      have s6 : Sm [86] [] M5 M6 := by rw [hM6, sI_e, sI_e, sI_e]; exact (((Sm.rfl _ _ M5).uI _ (by decide)).uI _ (by decide)).uI _ (by decide)
      have w6 := w5.sm s6
      have f6 : ∀ j, j ≠ 19 → j ≠ 20 → j ≠ 21 → mI M6 86 j = mI M5 86 j := fun j h1 h2 h3 => by rw [hM6, mI_sI, if_neg (fun z => h3 z.2), mI_sI, if_neg (fun z => h2 z.2), mI_sI, if_neg (fun z => h1 z.2)]
      have e0 : 0 + l.length = l.length := Nat.zero_add _
      rw [e0] at v2 v6
      obtain ⟨M7, g1, g2, g3⟩ := LM_at107 w6 l40 (s := fun i => l.getD i 0) (fun i hi => by
        rw [s6.i 93 (by decide), d2.i 93 (by decide), c2.i 93 (by decide), v6 i hi]
        rfl) l.length 0 (by omega) FU (FU_big (by omega)) M6 (Sm.rfl _ _ _) (fun j _ hj => absurd hj (Nat.not_lt_zero _))
      have s57 : Sm [86, 92] [] M5 M7 := (s6.more (by decide) (by decide)).trans (g2.more (by decide) (by decide))
      have f7 : ∀ j, j ≠ 19 → j ≠ 20 → j ≠ 21 → j ≠ 23 → mI M7 86 j = mI M4 86 j := fun j h1 h2 h3 h4 => by rw [g2.i 86 (by decide), f6 j h1 h2 h3, d3 j h4]
      have sA : Sm AmI [] M M7 := ((s4.more (by decide) (by decide)).trans (d2.more (by decide) (by decide))).trans (s57.more (by decide) (by decide))
      have pn7 := pn.sm sA (by decide)
      have pg7 : PgM M7 P o := by
        rw [← eP]
        exact PgM.bank pn7 (by rw [f7 5 (by decide) (by decide) (by decide) (by decide), f4 5 (by omega)]; exact pg.1)
      refine .inr ⟨k, l, M7, by simp only [x1', v1], ?_, sA, ⟨⟨⟨w6.sm g2, wp, o14, pg7, ⟨?_, ?_, ?_, fun i hi => g3 i hi⟩, ⟨?_, l40, fun i hi => ?_⟩, ?_⟩, ?_, ?_⟩, eP, pn7, wq⟩, ?_, ?_, ?_, ?_⟩
      · rw [v2]
        unfold f12_at_b77
        have wa : Wl (sI M5 86 19 1) := w5
        have wb : Wl (sI (sI M5 86 19 1) 86 20 (nI k)) := w5
        rw [aO_86 w3, c1, cI_some, if_neg (by decide), aO_86 w4, d1, cV_some, aO_86 w5, bM_e, aO_86 wa, bM_e, aO_86 wb, bM_e, ← hM6]
        exact g1
      · rw [g2.i 86 (by decide), hM6, mI_sI, if_neg (by decide), mI_sI, if_neg (by decide), mI_sI, if_pos ⟨rfl, rfl⟩]
      · rw [g2.i 86 (by decide), hM6, mI_sI, if_neg (by decide), mI_sI, if_pos ⟨rfl, rfl⟩]
      · rw [g2.i 86 (by decide), hM6, mI_sI, if_pos ⟨rfl, rfl⟩]
      · rw [← eP]; exact k5
      · have hi' : i < l.length := hi
        show l.getD (l.length - 1 - i) 0 < pG P
        rw [← eP]
        have lt : l.length - 1 - i < l.length := by omega
        rw [List.getD_eq_getElem?_getD, List.getElem?_eq_getElem lt]
        exact lg _ (List.getElem_mem lt)
      · unfold SzM
        rw [sA.i 96 (by decide)]
        exact sz
      · unfold ToldOK at *
        rw [f7 31 (by decide) (by decide) (by decide) (by decide), f4 31 (by omega), sA.j 99 (by decide)]
        exact tol
      · exact mac.sm sA (by rw [f7 47 (by decide) (by decide) (by decide) (by decide), f4 47 (by omega)]) (by rw [f7 48 (by decide) (by decide) (by decide) (by decide), f4 48 (by omega)]) (by rw [f7 49 (by decide) (by decide) (by decide) (by decide), f4 49 (by omega)]) (by decide)
      · exact d4.sm s57 (by rw [g2.i 86 (by decide), f6 23 (by decide) (by decide) (by decide)]) (by decide)
      · rw [f7 13 (by decide) (by decide) (by decide) (by decide), c4]
      · rw [f7 14 (by decide) (by decide) (by decide) (by decide), c5]
      · rw [f7 7 (by decide) (by decide) (by decide) (by decide), c3 7 (by decide) (by decide), v4 7 g7, b4]
end PLACEM
