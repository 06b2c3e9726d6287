/-! the class reads a place -/
section PLACEC
variable {P : PG} {o : Nat} {nw : NW} {L : Nat} {B : Nat → Nat} {a : Nat} {Q : QG} {t : TK}
theorem RdC.pl {M M' : MM} (h : RdC M a L B Q t) (s : Sm [26, 28] [] M M') : RdC M' a L B Q t := by
  obtain ⟨w, tp, tk, g, r1, pn, wq⟩ := h
  refine ⟨w.sm s, ?_, ?_, g, by rw [s.r]; exact r1, pn.sm s (by decide) (by decide), wq⟩
  · unfold TpC
    rw [s.i 2 (by decide), s.i 3 (by decide)]
    exact tp
  · unfold TkC
    rw [s.i 2 (by decide), s.j 2 (by simp)]
    exact tk
/-- turned over so far -/
def swT (n i : Nat) (s : Nat → Nat) : Nat → Nat := fun j => if j < i ∨ n - 1 - j < i then s (n - 1 - j) else s j
theorem LS6_turn {M0 : MM} (w0 : Wl M0) {n : Nat} {s : Nat → Nat} (h3 : mI M0 26 3 = nI n) (hn : n ≤ 40) : ∀ (d i : Nat), i + d = n / 2 → ∀ f, d < f → ∀ M, Sm [28] [] M0 M → (∀ j, j < n → mI M 28 j = nI (swT n i s j)) → ∃ M', LP3 f6_turnOver_b2_body f M 26 (nI i) = some M' ∧ Sm [28] [] M0 M' ∧ ∀ j, j < n → mI M' 28 j = nI (s (n - 1 - j))
  | 0, i, hi, f + 1, _, M, sm, hk => by
    have w := w0.sm sm
    have e : i = n / 2 := by omega
    refine ⟨M, ?_, sm, fun j hj => ?_⟩
    · rw [LP3_s]
      generalize LP3 f6_turnOver_b2_body f = K
      unfold f6_turnOver_b2_body
      rw [aO_26 w, gd_e (by decide), sm.i 26 (by decide), h3, show (2 : Int32) = nI 2 from rfl, nI_div (by omega) (by omega) (by omega), if_pos (show nI (n / 2) ≤ nI i by rw [e]; exact nI_le (Nat.le_refl _) (by omega))]
    · rw [hk j hj]
      unfold swT
      by_cases c : j < i ∨ n - 1 - j < i
      · rw [if_pos c]
      · rw [if_neg c, show n - 1 - j = j by omega]
  | d + 1, i, hi, f + 1, hf, M, sm, hk => by
    have w := w0.sm sm
    have hi2 : i < n / 2 := by omega
    have g1 : f3_get M 27 (nI i) = some (nI (s i), M) := by
      have := hk i (by omega)
      unfold swT at this
      rw [if_neg (by omega)] at this
      rw [g_27 w, gI_in (by omega) (by omega), this]
    have g2 : f3_get M 27 (nI (n - 1 - i)) = some (nI (s (n - 1 - i)), M) := by
      have := hk (n - 1 - i) (by omega)
      unfold swT at this
      rw [if_neg (by omega)] at this
      rw [g_27 w, gI_in (by omega) (by omega), this]
    obtain ⟨M1, hM1⟩ : ∃ M1, M1 = uI M 28 (upx (mI M 28) i (nI (s (n - 1 - i)))) := ⟨_, rfl⟩
    have s1 : Sm [28] [] M M1 := by rw [hM1]; exact (Sm.rfl _ _ M).uI _ (by decide)
    have w1 := w.sm s1
    obtain ⟨M2, hM2⟩ : ∃ M2, M2 = uI M1 28 (upx (mI M1 28) (n - 1 - i) (nI (s i))) := ⟨_, rfl⟩
    have s2 : Sm [28] [] M1 M2 := by rw [hM2]; exact (Sm.rfl _ _ M1).uI _ (by decide)
    have w2 := w1.sm s2
    obtain ⟨M', k1, k2, k3⟩ := LS6_turn w0 h3 hn d (i + 1) (by omega) f (by omega) M2 ((sm.trans s1).trans s2) (fun j hj => by
      rw [hM2, mI_uI, if_pos rfl, upx_e]
      by_cases c1 : j = n - 1 - i
      · rw [if_pos c1]
        unfold swT
        rw [if_pos (.inr (by omega)), c1, show n - 1 - (n - 1 - i) = i by omega]
      · rw [if_neg c1, hM1, mI_uI, if_pos rfl, upx_e]
        by_cases c2 : j = i
        · rw [if_pos c2]
          unfold swT
          rw [if_pos (.inl (by omega)), c2]
        · rw [if_neg c2, hk j hj]
          unfold swT
          by_cases c3 : j < i ∨ n - 1 - j < i
          · rw [if_pos c3, if_pos (by omega)]
          · rw [if_neg c3, if_neg (by omega)])
    refine ⟨M', ?_, k2, k3⟩
    rw [LP3_s]
    rw [← k1]
    generalize LP3 f6_turnOver_b2_body f = K
    unfold f6_turnOver_b2_body
    have e3 : mI M 26 3 = nI n := by rw [sm.i 26 (by decide), h3]
    rw [aO_26 w, gd_e (by decide), e3, show (2 : Int32) = nI 2 from rfl, nI_div (by omega) (by omega) (by omega), if_neg (nI_ge hi2 (by omega)), aO_26 w, nI_sub1 (by omega), nI_subN (by omega), bW_e, aO_26 w, r_26_1 w, aO_27 w, g1, cI_some, aO_26 w, aO_26 w, r_26_1 w, aO_27 w, g2, cI_some, aO_27 w, s_27 w, pI_in (by omega) (by omega), cV_some, ← hM1, aO_26 w1, r_26_1 w1, aO_27 w1, s_27 w1, pI_in (by omega) (by omega), cV_some, ← hM2, nI_1]
theorem S6_turnOver {M : MM} (w : Wl M) {n : Nat} {s : Nat → Nat} (h : PlS M 26 n s) : ∃ M', f6_turnOver M 26 = some M' ∧ Sm [28] [] M M' ∧ PlS M' 26 n (fun j => s (n - 1 - j)) := by
  obtain ⟨h1, h2, h3, h4, h5⟩ := h
  have h4' : n ≤ 40 := h4
  obtain ⟨M', k1, k2, k3⟩ := LS6_turn w h3 h4' (n / 2) 0 (by omega) FU (FU_big (by omega)) M (Sm.rfl _ _ _) (fun j hj => by
    unfold swT
    rw [if_neg (by omega)]
    exact h5 j hj)
  exact ⟨M', k1, k2, h1, by rw [k2.i 26 (by decide)]; exact h2, by rw [k2.i 26 (by decide)]; exact h3, h4, k3⟩
/-- signs told, laid on -/
def pshL (n : Nat) (s : Nat → Nat) (l : List Nat) : Nat → Nat := fun i => if i < n then s i else l.getD (i - n) 0
theorem pshL_nil {n : Nat} {s : Nat → Nat} : ∀ i, i < n → pshL n s [] i = s i := fun i hi => if_pos hi
theorem pshL_cons {n : Nat} {s : Nat → Nat} {k : Nat} {l : List Nat} : pshL (n + 1) (upx s n k) l = pshL n s (k :: l) := by
  funext i
  unfold pshL
  by_cases c : i < n
  · rw [if_pos (by omega), if_pos c, upx_e, if_neg (by omega)]
  · rw [if_neg c]
    by_cases c2 : i = n
    · rw [if_pos (by omega), upx_e, if_pos c2, c2, Nat.sub_self]
      rfl
    · rw [if_neg (by omega), show i - n = (i - (n + 1)) + 1 by omega]
      rfl
theorem S8_rp95 {M : MM} (h : RdC M a L B Q t) {n p : Nat} {s : Nat → Nat} (hp : PlS M 26 n s) : (tkK t = 0 ∧ ∃ M', f8_readsPlace_b95 M 22 26 (nI p) = some (1, M') ∧ Sm [26, 28] [] M M' ∧ PlC M' 26 p n (fun j => s (n - 1 - j))) ∨ (tkK t ≠ 0 ∧ ∃ M', f8_readsPlace_b95 M 22 26 (nI p) = some (0, M') ∧ Sm [22] [] M M' ∧ FtC M' (refA t)) := by
  obtain ⟨w, tp, tk, g, r1, pn, wq⟩ := id h
  have k4 := g.2.2.2.1
  unfold f8_readsPlace_b95
  rw [aO_22 w, r_22_0 w, aO_2 w, tk.2.1]
  by_cases c : tkK t = 0
  · refine .inl ⟨c, ?_⟩
    obtain ⟨M1, hM1⟩ : ∃ M1, M1 = sI M 26 2 (nI p) := ⟨_, rfl⟩
    have s1 : Sm [26, 28] [] M M1 := by rw [hM1]; exact (Sm.rfl _ _ M).uI _ (by decide)
    have w1 := w.sm s1
    obtain ⟨h1, h2, h3, h4, h5⟩ := hp
    have p1 : PlS M1 26 n s := ⟨h1, by rw [hM1, mI_sI, if_neg (by omega)]; exact h2, by rw [hM1, mI_sI, if_neg (by omega)]; exact h3, h4, fun i hi => by rw [hM1, mI_sI, if_neg (by omega)]; exact h5 i hi⟩
    obtain ⟨M2, t1, t2, t3⟩ := S6_turnOver w1 p1
    refine ⟨M2, ?_, s1.trans (t2.more (by decide) (by decide)), t3.c ?_⟩
    · rw [if_pos (show nI (tkK t) = 0 by rw [c]; rfl), aO_26 w, bM_e, ← hM1, aO_26 w1, t1, cV_some]
    · rw [t2.i 26 (by decide), hM1, mI_sI, if_pos ⟨rfl, rfl⟩]
  · refine .inr ⟨c, ?_⟩
    obtain ⟨M', a1, a2, a3⟩ := S8_refuse w tk g
    refine ⟨M', ?_, a2, a3⟩
    rw [if_neg (show ¬ nI (tkK t) = 0 by rw [c_eq0 (by omega)]; exact c), aO_22 w, a1, cI_some, gd_e (.inl rfl)]
def PcI : List Nat := [2, 22, 26, 28]
theorem L8_rp38 {M0 : MM} {p : Nat} : ∀ (m j : Nat), j + m = 40 → ∀ f, m < f → ∀ M t s, Sm [2, 26, 28] [2] M0 M → RdC M a L B Q t → PlS M 26 j s → (∃ e M', plA L B Q.2.2 (pG Q.1) m t = .inl e ∧ LP5 f8_readsPlace_b38_body f M 22 26 (nI p) (nI j) = some (0, M') ∧ Sm PcI [2] M0 M' ∧ FtC M' e ∧ mI M' 26 0 = nI 40) ∨ (∃ l M', plA L B Q.2.2 (pG Q.1) m t = .inr l ∧ LP5 f8_readsPlace_b38_body f M 22 26 (nI p) (nI j) = some (1, M') ∧ Sm [2, 26, 28] [2] M0 M' ∧ PlC M' 26 p (j + l.length) (fun i => pshL j s l (j + l.length - 1 - i)))
  | m, j, hj, 0, hf, _, _, _, _, _, _ => absurd hf (Nat.not_lt_zero _)
  | 0, j, hj, f + 1, hf, M, t, s, sm, h, hp => by
    have e40 : j = 40 := by omega
    have pa : plA L B Q.2.2 (pG Q.1) 0 t = if tkK t = 0 then .inr [] else .inl (refA t) := rfl
    have hd : LP5 f8_readsPlace_b38_body (f + 1) M 22 26 (nI p) (nI j) = f8_readsPlace_b95 M 22 26 (nI p) := by
      rw [LP5_s]
      generalize LP5 f8_readsPlace_b38_body f = K
      unfold f8_readsPlace_b38_body
      rw [if_pos (show (40 : Int32) ≤ nI j by rw [e40]; decide)]
    rw [pa, hd]
    rcases S8_rp95 (p := p) h hp with ⟨c, M', x1, x2, x3⟩ | ⟨c, M', x1, x2, x3⟩
    · rw [if_pos c]
      refine .inr ⟨[], M', rfl, x1, sm.trans (x2.more (by decide) (by decide)), ?_⟩
      obtain ⟨q1, q2, q3, q4, q5, q6⟩ := x3
      refine ⟨q1, q2, q3, q4, q5, fun i hi => ?_⟩
      have hi' : i < j := hi
      rw [q6 i hi]
      show nI (s (j - 1 - i)) = nI (pshL j s [] (j - 1 - i))
      rw [pshL_nil _ (by omega)]
    · rw [if_neg c]
      exact .inl ⟨_, M', rfl, x1, (sm.more (by decide) (by decide)).trans (x2.more (by decide) (by decide)), x3, by rw [x2.i 26 (by decide)]; exact hp.2.1⟩
  | m + 1, j, hj, f + 1, hf, M, t, s, sm, h, hp => by
    obtain ⟨w, tp, tk, g, r1, pn, wq⟩ := id h
    have k4 := g.2.2.2.1
    have pa : plA L B Q.2.2 (pG Q.1) (m + 1) t = if tkK t = 0 then .inr [] else match takeN L B Q.2.2 (pG Q.1) t with | .inl e => .inl e | .inr (k, t1) => match plA L B Q.2.2 (pG Q.1) m t1 with | .inl e => .inl e | .inr l => .inr (k :: l) := rfl
    rw [pa]
    have ge : ¬ (40 : Int32) ≤ nI j := by rw [show (40 : Int32) = nI 40 from rfl, c_le (by omega) (by omega)]; omega
    by_cases c : tkK t = 0
    · have hd : LP5 f8_readsPlace_b38_body (f + 1) M 22 26 (nI p) (nI j) = f8_readsPlace_b95 M 22 26 (nI p) := by
        rw [LP5_s]
        generalize LP5 f8_readsPlace_b38_body f = K
        unfold f8_readsPlace_b38_body
        rw [if_neg ge, aO_22 w, r_22_0 w, aO_2 w, tk.2.1, if_pos (show nI (tkK t) = 0 by rw [c]; rfl)]
      rw [if_pos c, hd]
      rcases S8_rp95 (p := p) h hp with ⟨_, M', x1, x2, x3⟩ | ⟨c', _⟩
      · refine .inr ⟨[], M', rfl, x1, sm.trans (x2.more (by decide) (by decide)), ?_⟩
        obtain ⟨q1, q2, q3, q4, q5, q6⟩ := x3
        refine ⟨q1, q2, q3, q4, q5, fun i hi => ?_⟩
        have hi' : i < j := hi
        rw [q6 i hi]
        show nI (s (j - 1 - i)) = nI (pshL j s [] (j - 1 - i))
        rw [pshL_nil _ (by omega)]
      · exact absurd c c'
    · rw [if_neg c]
      obtain ⟨r, y0, y⟩ := S8_takeG h
      have hd : ∀ K, f8_readsPlace_b38_body K M 22 26 (nI p) (nI j) = cI (f8_takeNamed M 22 r) fun r70 M70 => if r70 = (-1 : Int32) then some ((0 : Int32), M70) else aO M70 26 6 <| cV (f6_push M70 26 r70) fun M86 => K M86 22 26 (nI p) (nI j + 1) := fun K => by
        unfold f8_readsPlace_b38_body
        rw [if_neg ge, aO_22 w, r_22_0 w, aO_2 w, tk.2.1, if_neg (show ¬ nI (tkK t) = 0 by rw [c_eq0 (by omega)]; exact c), aO_22 w, aO_22 w, aO_2 w, r1, pn.1.oP w, y0, cI_some, aO_22 w]
      rcases y with ⟨e, M1, x1, x2, x3, x4⟩ | ⟨k, t1, M1, x1, x2, x3, x4, x5⟩
      · refine .inl ⟨e, M1, by simp only [x1], ?_, (sm.more (by decide) (by decide)).trans (x3.more (by decide) (by decide)), x4, by rw [x3.i 26 (by decide)]; exact hp.2.1⟩
        rw [LP5_s, hd, x2, cI_some, if_pos rfl]
      · have w1 := x4.1
        obtain ⟨h1, h2, h3, h4, h5⟩ := hp
        have p1 : PlS M1 26 j s := ⟨h1, by rw [x3.i 26 (by decide)]; exact h2, by rw [x3.i 26 (by decide)]; exact h3, h4, fun i hi => by rw [x3.i (26 + 2) (by decide)]; exact h5 i hi⟩
        obtain ⟨M2, z1, z2, z3, z4⟩ := S6_push w1 p1 (show j < 40 by omega) k
        have x42 := x4.pl (z3.more (by decide) (by decide))
        have k6 := wq.1.2.1
        have hd2 : LP5 f8_readsPlace_b38_body (f + 1) M 22 26 (nI p) (nI j) = LP5 f8_readsPlace_b38_body f M2 22 26 (nI p) (nI (j + 1)) := by
          rw [LP5_s, hd, x2, cI_some, if_neg (show ¬ nI k = -1 from nI_neM (by omega)), aO_26 w1, z1, cV_some, nI_1]
        rw [hd2]
        rcases L8_rp38 m (j + 1) (by omega) f (by omega) M2 t1 _ ((sm.trans (x3.more (by decide) (by decide))).trans (z3.more (by decide) (by decide))) x42 z2 with ⟨e, M', v1, v2, v3⟩ | ⟨l, M', v1, v2, v3, v4⟩
        · exact .inl ⟨e, M', by simp only [x1, v1], v2, v3⟩
        · refine .inr ⟨k :: l, M', by simp only [x1, v1], v2, v3, ?_⟩
          rw [pshL_cons] at v4
          have e1 : j + 1 + l.length = j + (k :: l).length := by
            show j + 1 + l.length = j + (l.length + 1)
            omega
          rw [e1] at v4
          exact v4
theorem S8_readsPlace {M : MM} (w : Wl M) (tp : TpC M L B) (pn : PnC M a Q) (wq : WQ Q) (h26 : mI M 26 0 = nI 40) : (∃ e M', placeA L B Q (tok L B 0) = .inl e ∧ f8_readsPlace M 22 a 26 = some (0, M') ∧ SmR PcI [2] M M' ∧ FtC M' e ∧ mI M' 26 0 = nI 40) ∨ (∃ p l M', placeA L B Q (tok L B 0) = .inr (p, l) ∧ f8_readsPlace M 22 a 26 = some (1, M') ∧ SmR PcI [2] M M' ∧ PlC M' 26 p l.length (fun i => l.getD (l.length - 1 - i) 0) ∧ mI M' 22 2 = 0 ∧ mI M' 22 3 = -1) := by
  have a4 := pn.1.1
  obtain ⟨M1, b1, b2, b3, b4, b5, b6, b7, b8⟩ := S8_begin w tp a
  have i1 : ∀ x, x ∉ [2, 22] → mI M1 x = mI M x := b2.2.2.2.2.1
  have j1 : ∀ x, x ∉ [2] → mJ M1 x = mJ M x := b2.2.2.2.2.2
  obtain ⟨f1, f2, f3, f4⟩ := S6_forget (b := 26) (s := fun _ => 0) b4 (.inr (.inl rfl)) (show mI M1 26 0 = nI (pcl 26) by rw [i1 26 (by decide)]; exact h26)
  obtain ⟨M2, hM2⟩ : ∃ M2, M2 = sI (sI M1 26 2 (-1)) 26 3 0 := ⟨_, rfl⟩
  rw [← hM2] at f1 f2 f3 f4
  have w2 := b4.sm f3
  have pn1 : PnC M1 a Q := by
    unfold PnC PgC at *
    rw [i1 a (by simp only [List.mem_cons, List.not_mem_nil, or_false]; omega), i1 (a + 6) (by simp only [List.mem_cons, List.not_mem_nil, or_false]; omega), i1 (a + 8) (by simp only [List.mem_cons, List.not_mem_nil, or_false]; omega), j1 (a + 2) (by simp only [List.mem_cons, List.not_mem_nil, or_false]; omega), j1 (a + 4) (by simp only [List.mem_cons, List.not_mem_nil, or_false]; omega)]
    exact pn
  have tg := (tok_g (B := B) (Nat.zero_le L)).1
  have h1 : RdC M1 a L B Q (tok L B 0) := ⟨b4, b5, b6, tg, b3, pn1, wq⟩
  have h2 := h1.pl f3
  have r22 : mR M2 22 1 = a := h2.2.2.2.2.1
  have ro : SmR PcI [2] M M2 := by
    refine SmR.tr (Is' := [26, 28]) (Js' := []) ⟨b2.1, b2.2.1, b2.2.2.1, b2.2.2.2.1, fun x hx => i1 x (fun z => hx ?_), j1⟩ f3 (by decide) (by decide)
    simp only [PcI, List.mem_cons, List.not_mem_nil, or_false] at z ⊢
    omega
  obtain ⟨r, y0, y⟩ := S8_takeS h2
  have hd : f8_readsPlace M 22 a 26 = cI (f8_takeNamed M2 22 r) fun r24 M24 => if r24 = (-1 : Int32) then some ((0 : Int32), M24) else f8_readsPlace_b38 M24 22 26 r24 (0 : Int32) := by
    unfold f8_readsPlace
    rw [aO_22 w, b1, cV_some, aO_26 b4, f1, cV_some, aO_22 w2, aO_22 w2, r_22_0 w2, aO_2 w2, r22, h2.2.2.2.2.2.1.1.oP w2, y0, cI_some, aO_22 w2]
  have pa : placeA L B Q (tok L B 0) = match takeN L B Q.2.1 (pS Q.1) (tok L B 0) with | .inl e => .inl e | .inr (p, t1) => match plA L B Q.2.2 (pG Q.1) 40 t1 with | .inl e => .inl e | .inr l => .inr (p, l) := rfl
  rw [pa, hd]
  rcases y with ⟨e, M3, x1, x2, x3, x4⟩ | ⟨k, t1, M3, x1, x2, x3, x4, x5⟩
  · refine .inl ⟨e, M3, by simp only [x1], ?_, ro.tr x3 (by decide) (by decide), x4, ?_⟩
    · rw [x2, cI_some, if_pos rfl]
    · rw [x3.i 26 (by decide)]; exact f2.2.1
  · have k5 := wq.1.1
    have p3 : PlS M3 26 0 (fun _ => 0) := by
      obtain ⟨q1, q2, q3, q4, q5⟩ := f2
      exact ⟨q1, by rw [x3.i 26 (by decide)]; exact q2, by rw [x3.i 26 (by decide)]; exact q3, q4, fun i hi => absurd hi (Nat.not_lt_zero _)⟩
    have ro3 : SmR PcI [2] M M3 := ro.tr x3 (by decide) (by decide)
    have e22 : mI M3 22 = mI M1 22 := by rw [x3.i 22 (by decide), f3.i 22 (by decide)]
    rw [x2, cI_some, if_neg (show ¬ nI k = -1 from nI_neM (by omega))]
    rcases L8_rp38 (p := k) 40 0 rfl FU (FU_big (by omega)) M3 t1 _ (Sm.rfl _ _ M3) x4 p3 with ⟨e, M', v1, v2, v3, v4, v5⟩ | ⟨l, M', v1, v2, v3, v4⟩
    · exact .inl ⟨e, M', by simp only [x1, v1], v2, ro3.tr v3 (by decide) (by decide), v4, v5⟩
    · refine .inr ⟨k, l, M', by simp only [x1, v1], v2, ro3.tr v3 (by decide) (by decide), ?_, by rw [v3.i 22 (by decide), e22]; exact b7, by rw [v3.i 22 (by decide), e22]; exact b8⟩
      have e0 : 0 + l.length = l.length := Nat.zero_add _
      rw [e0] at v4
      exact v4
/-- the class comes to a place that is told -/
def AtI : List Nat := [2, 22, 26, 28, 29, 31, 23, 25]
theorem S11_at {M : MM} {n : Nat} {A : Nat → NW × Nat} {Q : QG} {a : Nat} (h : CoC M P o nw) (q10 : mR M 1 10 = a) (pn : PnC M a Q) (wq : WQ Q) (tp : TpC M L B) (ha : ActC M n A) (hA : ActW P n A) (h26 : mI M 26 0 = nI 40) : (∃ e M', placeA L B Q (tok L B 0) = .inl e ∧ f11_at M 1 = some (-1, M') ∧ SmR AtI [2] M M' ∧ HereC M' nw ∧ ActC M' n A ∧ FtC M' e ∧ mI M' 2 2 = 0 ∧ mI M' 26 0 = nI 40) ∨ (∃ p l M', placeA L B Q (tok L B 0) = .inr (p, l) ∧ f11_at M 1 = some (nI l.length, M') ∧ SmR AtI [2] M M' ∧ HereC M' (some (p, l.length, fun i => l.getD (l.length - 1 - i) 0)) ∧ ActC M' (kpN n) (kpA n A (nw, o)) ∧ mI M' 22 2 = 0 ∧ mI M' 22 3 = -1 ∧ mI M' 2 2 = 0 ∧ mI M' 26 0 = nI 40) := by
  have w := h.1
  have wn := h.2.2.2.2.2.2
  have ho := h.2.2.2.2.1
  have hh := h.2.2.2.2.2.1
  have cut : ∀ {X : MM}, Wl X → f9_cut X 2 0 = some (sI X 2 2 0) := fun {X} wX => by
    unfold f9_cut
    rw [aO_2 wX, bM_e]
  have keep : ∀ {X : MM} {v : Int32}, f8_readsPlace M 22 a 26 = some (v, X) → SmR PcI [2] M X → f11_at M 1 = if v = 0 then some (-1, sI X 2 2 0) else aO (sI X 2 2 0) 1 11 <| aO (sI X 2 2 0) 1 11 <| aO (sI X 2 2 0) 1 11 <| aO (sI X 2 2 0) (mR (sI X 2 2 0) 1 4) 0 <| cV (f0_keep (sI X 2 2 0) (mR (sI X 2 2 0) 1 4) (mR (sI X 2 2 0) 1 2) (mI (sI X 2 2 0) 1 12)) fun M42 => aO M42 1 11 <| aO M42 1 11 <| aO M42 (mR M42 1 2) 6 <| cV (f6_become M42 (mR M42 1 2) (mR M42 1 3)) fun M53 => aO M53 1 11 <| aO M53 (mR M53 1 2) 6 <| some (mI M53 (mR M53 1 2) 3, M53) := fun {X v} e s => by
    have wX := w.smR s
    unfold f11_at
    rw [aO_1 w, aO_1 w, aO_1 w, r_1_1 w, aO_22 w, q10, r_1_3 w, e, cI_some, aO_1 wX, r_1_0 wX, aO_2 wX, cut wX, cV_some]
  have here : ∀ {X : MM} {nw : NW}, HereC M nw → (∀ x, x ∉ AtI → mI X x = mI M x) → mI X 23 = mI M 23 → mI X 25 = mI M 25 → HereC X nw := fun {X nw} h i e1 e2 => by
    rcases nw with _ | ⟨p, H, q⟩
    · show mI X 23 0 = nI 40 ∧ mI X 23 2 = -1 ∧ mI X 23 3 = 0
      rw [e1]
      exact h
    · show PlC X 23 p H q
      unfold PlC
      rw [e1, show mI X (23 + 2) = mI M (23 + 2) from e2]
      exact h
  rcases S8_readsPlace w tp pn wq h26 with ⟨e, M1, x1, x2, x3, x4, x5⟩ | ⟨p, l, M1, x1, x2, x3, x4, x5, x6⟩
  · obtain ⟨M2, hM2⟩ : ∃ M2, M2 = sI M1 2 2 0 := ⟨_, rfl⟩
    have s2 : Sm [2] [] M1 M2 := by rw [hM2, sI_e]; exact (Sm.rfl _ _ M1).uI _ (by decide)
    have t2 : SmR PcI [2] M M2 := x3.tr s2 (by decide) (by decide)
    have ii : ∀ x, x ∉ PcI → mI M2 x = mI M x := t2.2.2.2.2.1
    have jj : ∀ x, x ∉ [2] → mJ M2 x = mJ M x := t2.2.2.2.2.2
    have i2 : ∀ x, x ∉ AtI → mI M2 x = mI M x := fun x hx => ii x (fun z => hx (by
      simp only [PcI, AtI, List.mem_cons, List.not_mem_nil, or_false] at z ⊢
      omega))
    refine .inl ⟨e, M2, x1, ?_, ⟨t2.1, t2.2.1, t2.2.2.1, t2.2.2.2.1, i2, jj⟩, here hh i2 (ii 23 (by decide)) (ii 25 (by decide)), ?_, x4.sm (s2.i 22 (by decide)), ?_, ?_⟩
    · rw [keep x2 x3, if_pos rfl, hM2]
    · unfold ActC at *
      rw [ii 29 (by decide), ii 31 (by decide)]
      exact ha
    · rw [hM2, mI_sI, if_pos ⟨rfl, rfl⟩]
    · rw [s2.i 26 (by decide)]; exact x5
  · obtain ⟨M2, hM2⟩ : ∃ M2, M2 = sI M1 2 2 0 := ⟨_, rfl⟩
    have s2 : Sm [2] [] M1 M2 := by rw [hM2, sI_e]; exact (Sm.rfl _ _ M1).uI _ (by decide)
    have t2 : SmR PcI [2] M M2 := x3.tr s2 (by decide) (by decide)
    have w2 := w.smR t2
    have ii : ∀ x, x ∉ PcI → mI M2 x = mI M x := t2.2.2.2.2.1
    have jj : ∀ x, x ∉ [2] → mJ M2 x = mJ M x := t2.2.2.2.2.2
    have i2 : ∀ x, x ∉ AtI → mI M2 x = mI M x := fun x hx => ii x (fun z => hx (by
      simp only [PcI, AtI, List.mem_cons, List.not_mem_nil, or_false] at z ⊢
      omega))
    have hh2 := here hh i2 (ii 23 (by decide)) (ii 25 (by decide))
    have ha2 : ActC M2 n A := by
      unfold ActC at *
      rw [ii 29 (by decide), ii 31 (by decide)]
      exact ha
    have ho2 : mI M2 1 12 = nI o := by rw [ii 1 (by decide)]; exact ho
    obtain ⟨M3, k1, k2, k3⟩ := S0_keep (o := o) w2 hh2 wn ha2 hA
    have w3 := w2.sm k2
    have h23 : mI M3 23 0 = nI (pcl 23) := by
      rw [k2.i 23 (by decide), ii 23 (by decide)]
      exact (hh.b wn).1
    have p3 : PlC M3 26 p l.length (fun i => l.getD (l.length - 1 - i) 0) := by
      unfold PlC
      rw [k2.i 26 (by decide), k2.i (26 + 2) (by decide), s2.i 26 (by decide), s2.i (26 + 2) (by decide)]
      exact x4
    obtain ⟨M4, z1, z2, z3⟩ := S6_become w3 (show (26 : Nat) ≠ 23 by decide) (.inl rfl) h23 (show l.length ≤ pcl 23 from x4.2.2.2.2.1) p3
    have w4 := w3.sm z3
    have s4 : Sm [23, 25, 29, 31] [] M2 M4 := (k2.more (by decide) (by decide)).trans (z3.more (by decide) (by decide))
    refine .inr ⟨p, l, M4, x1, ?_, ?_, z2, k3.sm z3 (by decide), ?_, ?_, ?_, ?_⟩
    · rw [keep x2 x3, if_neg (by decide), ← hM2, aO_1 w2, aO_1 w2, aO_1 w2, r_1_4 w2, aO_29 w2, r_1_2 w2, ho2, k1, cV_some, aO_1 w3, aO_1 w3, r_1_2 w3, aO_23 w3, r_1_3 w3, z1, cV_some, aO_1 w4, r_1_2 w4, aO_23 w4, z2.2.2.2.1]
    · refine SmR.tr (Is' := [23, 25, 29, 31]) (Js' := []) ⟨t2.1, t2.2.1, t2.2.2.1, t2.2.2.2.1, i2, jj⟩ s4 (by decide) (by decide)
    · rw [s4.i 22 (by decide), s2.i 22 (by decide)]; exact x5
    · rw [s4.i 22 (by decide), s2.i 22 (by decide)]; exact x6
    · rw [s4.i 2 (by decide), hM2, mI_sI, if_pos ⟨rfl, rfl⟩]
    · rw [s4.i 26 (by decide), s2.i 26 (by decide)]; exact x4.2.1
end PLACEC
