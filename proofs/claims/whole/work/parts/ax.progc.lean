/-! READING at the class: programs -/
section PROGC
variable {L : Nat} {B : Nat → Nat} {a : Nat} {Q : QG} {t : TK}
theorem L8_line {M : MM} (h : RdC M a L B Q t) : ∃ M' r, LnC (some (r, M')) M a L B (lineA L B Q t) ∧ ∀ (K : MM → Nat → Int32 → Int32 → Option (Int32 × MM)) (n : Int32), (cI (f9_isWord M 2 (495873782885 : Int64)) fun r41 M41 =>
        if r41 = 0 then
          aO M41 22 8 <|
          aO M41 (mR M41 22 0) 9 <|
          cI (f9_isWord M41 (mR M41 22 0) (1936287598 : Int64)) fun r62 M62 =>
          if r62 = 0 then
            aO M62 22 8 <|
            aO M62 (mR M62 22 0) 9 <|
            cI (f9_isWord M62 (mR M62 22 0) (1920298085 : Int64)) fun r83 M83 =>
            if r83 = 0 then
              aO M83 22 8 <|
              aO M83 (mR M83 22 0) 9 <|
              cI (f9_isWord M83 (mR M83 22 0) (1735352684 : Int64)) fun r104 M104 =>
              if r104 = 0 then
                aO M104 22 8 <|
                cI (f8_refuse M104 22) fun r119 M119 =>
                (f8_readsProgram_b123 K) M119 22 r119 n
              else
                aO M104 22 8 <|
                cI (f8_readsGoal M104 22) fun r111 M111 =>
                (f8_readsProgram_b123 K) M111 22 r111 n
            else
              aO M83 22 8 <|
              cI (f8_readsRule M83 22) fun r90 M90 =>
              (f8_readsProgram_b123 K) M90 22 r90 n
          else
            aO M62 22 8 <|
            cI (f8_readsSign M62 22) fun r69 M69 =>
            (f8_readsProgram_b123 K) M69 22 r69 n
        else
          aO M41 22 8 <|
          cI (f8_readsState M41 22) fun r48 M48 =>
          (f8_readsProgram_b123 K) M48 22 r48 n) = K M' 22 r (n + 1) := by
  obtain ⟨w, tp, tk, g, r1, pn, wq⟩ := id h
  have fin : ∀ {f : Option (Int32 × MM)} {ab : PR (QG × TK)}, LnC f M a L B ab → lineA L B Q t = ab → ∃ M' r, f = some (r, M') ∧ LnC (some (r, M')) M a L B (lineA L B Q t) := fun {f ab} hl e => by
    rw [e]
    rcases hl with ⟨e', M', x1, x2, x3⟩ | ⟨Q', t', M', x1, x2, x3⟩
    · exact ⟨M', 0, x2, .inl ⟨e', M', x1, rfl, x3⟩⟩
    · exact ⟨M', 1, x2, .inr ⟨Q', t', M', x1, rfl, x3⟩⟩
  rw [show (495873782885 : Int64) = lN (c8 kwS) from rfl, S9_isWord w tk g (by decide)]
  by_cases c1 : isW t kwS = true
  · obtain ⟨M', r, y1, y2⟩ := fin (S8_readsState h) (by unfold lineA; rw [if_pos c1])
    refine ⟨M', r, y2, fun K n => ?_⟩
    rw [cI_some, c1, if_neg (show ¬ bI true = 0 by decide), aO_22 w, y1, cI_some]
    rfl
  · have c1' := c1
    rw [Bool.not_eq_true] at c1'
    by_cases c2 : isW t kwG = true
    · obtain ⟨M', r, y1, y2⟩ := fin (S8_readsSign h) (by unfold lineA; rw [if_neg c1, if_pos c2])
      refine ⟨M', r, y2, fun K n => ?_⟩
      rw [cI_some, c1', if_pos (show bI false = 0 from rfl), aO_22 w, r_22_0 w, aO_2 w, show (1936287598 : Int64) = lN (c8 kwG) from rfl, S9_isWord w tk g (by decide), cI_some, c2, if_neg (show ¬ bI true = 0 by decide), aO_22 w, y1, cI_some]
      rfl
    · have c2' := c2
      rw [Bool.not_eq_true] at c2'
      by_cases c3 : isW t kwR = true
      · obtain ⟨M', r, y1, y2⟩ := fin (S8_readsRule h) (by unfold lineA; rw [if_neg c1, if_neg c2, if_pos c3])
        refine ⟨M', r, y2, fun K n => ?_⟩
        rw [cI_some, c1', if_pos (show bI false = 0 from rfl), aO_22 w, r_22_0 w, aO_2 w, show (1936287598 : Int64) = lN (c8 kwG) from rfl, S9_isWord w tk g (by decide), cI_some, c2', if_pos (show bI false = 0 from rfl), aO_22 w, r_22_0 w, aO_2 w, show (1920298085 : Int64) = lN (c8 kwR) from rfl, S9_isWord w tk g (by decide), cI_some, c3, if_neg (show ¬ bI true = 0 by decide), aO_22 w, y1, cI_some]
        rfl
      · have c3' := c3
        rw [Bool.not_eq_true] at c3'
        by_cases c4 : isW t kwL = true
        · obtain ⟨M', r, y1, y2⟩ := fin (S8_readsGoal h) (by unfold lineA; rw [if_neg c1, if_neg c2, if_neg c3, if_pos c4])
          refine ⟨M', r, y2, fun K n => ?_⟩
          rw [cI_some, c1', if_pos (show bI false = 0 from rfl), aO_22 w, r_22_0 w, aO_2 w, show (1936287598 : Int64) = lN (c8 kwG) from rfl, S9_isWord w tk g (by decide), cI_some, c2', if_pos (show bI false = 0 from rfl), aO_22 w, r_22_0 w, aO_2 w, show (1920298085 : Int64) = lN (c8 kwR) from rfl, S9_isWord w tk g (by decide), cI_some, c3', if_pos (show bI false = 0 from rfl), aO_22 w, r_22_0 w, aO_2 w, show (1735352684 : Int64) = lN (c8 kwL) from rfl, S9_isWord w tk g (by decide), cI_some, c4, if_neg (show ¬ bI true = 0 by decide), aO_22 w, y1, cI_some]
          rfl
        · have c4' := c4
          rw [Bool.not_eq_true] at c4'
          obtain ⟨M', a1, a2, a3⟩ := S8_refuse w tk g
          refine ⟨M', 0, .inl ⟨refA t, M', by unfold lineA; rw [if_neg c1, if_neg c2, if_neg c3, if_neg c4], rfl, a2.fi22 a, a3⟩, fun K n => ?_⟩
          rw [cI_some, c1', if_pos (show bI false = 0 from rfl), aO_22 w, r_22_0 w, aO_2 w, show (1936287598 : Int64) = lN (c8 kwG) from rfl, S9_isWord w tk g (by decide), cI_some, c2', if_pos (show bI false = 0 from rfl), aO_22 w, r_22_0 w, aO_2 w, show (1920298085 : Int64) = lN (c8 kwR) from rfl, S9_isWord w tk g (by decide), cI_some, c3', if_pos (show bI false = 0 from rfl), aO_22 w, r_22_0 w, aO_2 w, show (1735352684 : Int64) = lN (c8 kwL) from rfl, S9_isWord w tk g (by decide), cI_some, c4', if_pos (show bI false = 0 from rfl), aO_22 w, a1, cI_some]
          rfl
theorem L8_rp13 {M0 : MM} : ∀ (m n : Nat), n + m = 801 → ∀ f, m < f → ∀ M Q t, Sm (hIa a) (fJ a) M0 M → RdC M a L B Q t → n ≤ tkP t → (∃ e M', progA L B m Q t = .inl e ∧ LP4 f8_readsProgram_b13_body f M 22 1 (nI n) = some (0, M') ∧ Sm (fI a) (fJ a) M0 M' ∧ FtC M' e ∧ Wl M') ∨ (∃ Q' t' M', progA L B m Q t = .inr Q' ∧ LP4 f8_readsProgram_b13_body f M 22 1 (nI n) = some (1, M') ∧ Sm (hIa a) (fJ a) M0 M' ∧ RdC M' a L B Q' t')
  | m, n, hn, 0, hf, _, _, _, _, _, _ => absurd hf (Nat.not_lt_zero _)
  | 0, n, hn, f + 1, hf, M, Q, t, s, h, hp => by
    have g := h.2.2.2.1
    have := h.2.1.2.1
    have := g.1
    have := g.2.1
    omega
  | m + 1, n, hn, f + 1, hf, M, Q, t, s, h, hp => by
    obtain ⟨w, tp, tk, g, r1, pn, wq⟩ := id h
    have L8 := tp.2.1
    have k4 := g.2.2.2.1
    have pa : progA L B (m + 1) Q t = if tkK t = 0 then .inr Q else match lineA L B Q t with | .inl e => .inl e | .inr (Q', t') => progA L B m Q' t' := rfl
    rw [pa]
    by_cases c : tkK t = 0
    · rw [if_pos c]
      refine .inr ⟨Q, t, M, rfl, ?_, s, h⟩
      rw [LP4_s]
      generalize LP4 f8_readsProgram_b13_body f = K
      unfold f8_readsProgram_b13_body
      rw [if_neg (by decide)]
      by_cases q : (800 : Int32) ≤ nI n
      · rw [if_pos q, gd_e (.inr rfl)]
      · rw [if_neg q, aO_22 w, r_22_0 w, aO_2 w, tk.2.1, if_pos (show nI (tkK t) = 0 by rw [c]; rfl), gd_e (.inr rfl)]
    · have lt := g.2.2.1 c
      have ge := g.1
      obtain ⟨M1, r, l1, l2⟩ := L8_line h
      have hd : LP4 f8_readsProgram_b13_body (f + 1) M 22 1 (nI n) = LP4 f8_readsProgram_b13_body f M1 22 r (nI (n + 1)) := by
        have := l2 (LP4 f8_readsProgram_b13_body f) (nI n)
        rw [nI_1] at this
        rw [← this, LP4_s]
        generalize LP4 f8_readsProgram_b13_body f = K
        unfold f8_readsProgram_b13_body
        rw [if_neg (by decide), if_neg (show ¬ (800 : Int32) ≤ nI n by rw [show (800 : Int32) = nI 800 from rfl, c_le (by omega) (by omega)]; omega), aO_22 w, r_22_0 w, aO_2 w, tk.2.1, if_neg (show ¬ nI (tkK t) = 0 by rw [c_eq0 (by omega)]; exact c), aO_22 w, aO_2 w]
      rw [if_neg c, hd]
      rcases l1 with ⟨e, M', x1, x2, x3, x4⟩ | ⟨Q', t', M', x1, x2, x3, x4⟩
      · cases x2
        refine .inl ⟨e, M1, by simp only [x1], ?_, s.gw.trans x3, x4, w.sm x3⟩
        obtain ⟨f', hf'⟩ : ∃ f', f = f' + 1 := ⟨f - 1, by omega⟩
        rw [hf', LP4_s]
        generalize LP4 f8_readsProgram_b13_body f' = K
        unfold f8_readsProgram_b13_body
        rw [if_pos rfl, gd_e (.inl rfl)]
      · cases x2
        obtain ⟨y1, y2, y3⟩ := lineA_g wq g c x1
        rcases L8_rp13 m (n + 1) (by omega) f (by omega) M1 Q' t' (s.trans x3) x4 (by omega) with ⟨e, M2, z1, z2⟩ | ⟨Q2, t2, M2, z1, z2⟩
        · exact .inl ⟨e, M2, by simp only [x1]; exact z1, z2⟩
        · exact .inr ⟨Q2, t2, M2, by simp only [x1]; exact z1, z2⟩
/-- reading begun: the reader's program is another -/
def SmR (Is Js : List Nat) (M M' : MM) : Prop := (∀ x k, ¬ (x = 22 ∧ k = 1) → mR M' x k = mR M x k) ∧ mK M' = mK M ∧ mz M' = mz M ∧ mn M' = mn M ∧ (∀ a, a ∉ Is → mI M' a = mI M a) ∧ ∀ a, a ∉ Js → mJ M' a = mJ M a
theorem SmR.tr {Is Js Is' Js' : List Nat} {M M1 M2 : MM} (a : SmR Is Js M M1) (b : Sm Is' Js' M1 M2) (hi : ∀ x ∈ Is', x ∈ Is) (hj : ∀ x ∈ Js', x ∈ Js) : SmR Is Js M M2 := ⟨fun x k h => by rw [b.r]; exact a.1 x k h, b.k.trans a.2.1, b.z.trans a.2.2.1, b.n.trans a.2.2.2.1, fun x h => (b.i x (fun z => h (hi x z))).trans (a.2.2.2.2.1 x h), fun x h => (b.j x (fun z => h (hj x z))).trans (a.2.2.2.2.2 x h)⟩
theorem Wl.smR {Is Js : List Nat} {M M' : MM} (h : Wl M) (s : SmR Is Js M M') : Wl M' := by
  refine ⟨fun a ha => by rw [s.2.1]; exact h.1 a ha, fun q hq => ?_⟩
  have : RRl.all (fun q => !(q.1 == 22 && q.2.1 == 1)) = true := by decide +kernel
  have := List.all_eq_true.mp this q hq
  rw [s.1 q.1 q.2.1 (fun z => by rw [z.1, z.2] at this; exact absurd this (by decide))]
  exact h.2 q hq
theorem S8_begin {M : MM} (w : Wl M) (tp : TpC M L B) (a : Nat) : ∃ M', f8_begin M 22 a = some M' ∧ SmR [2, 22] [2] M M' ∧ mR M' 22 1 = a ∧ Wl M' ∧ TpC M' L B ∧ TkC M' (tok L B 0) ∧ mI M' 22 2 = 0 ∧ mI M' 22 3 = -1 := by
  obtain ⟨M1, hM1⟩ : ∃ M1, M1 = sI (sI (sR M 22 1 a) 22 2 0) 22 3 (-1) := ⟨_, rfl⟩
  have s1 : SmR [22] [] M M1 := by
    rw [hM1]
    refine ⟨fun x k h => ?_, rfl, rfl, rfl, fun x h => ?_, fun x h => rfl⟩
    · show mR (sR M 22 1 a) x k = _
      rw [sR_e, mR_uR]
      by_cases c : x = 22
      · rw [if_pos c, upx_e, if_neg (fun z => h ⟨c, z⟩), c]
      · rw [if_neg c]
    · have n22 : x ≠ 22 := fun z => h (by rw [z]; decide)
      rw [sI_e, mI_uI, if_neg n22, sI_e, mI_uI, if_neg n22]
      rfl
  have r1 : mR M1 22 1 = a := by
    rw [hM1]
    show mR (sR M 22 1 a) 22 1 = a
    rw [sR_e, mR_uR, if_pos rfl, upx_e, if_pos rfl]
  have w1 := w.smR s1
  have wa : Wl (sR M 22 1 a) := by
    refine w.smR (Is := []) (Js := []) ⟨fun x k h => ?_, rfl, rfl, rfl, fun x h => rfl, fun x h => rfl⟩
    rw [sR_e, mR_uR]
    by_cases c : x = 22
    · rw [if_pos c, upx_e, if_neg (fun z => h ⟨c, z⟩), c]
    · rw [if_neg c]
  have wb : Wl (sI (sR M 22 1 a) 22 2 0) := wa
  obtain ⟨M2, hM2⟩ : ∃ M2, M2 = sI M1 2 1 (nI 0) := ⟨_, rfl⟩
  have s2 : Sm [2] [2] M1 M2 := by rw [hM2, sI_e]; exact (Sm.rfl _ _ M1).uI _ (by decide)
  have w2 := w1.sm s2
  have tp2 : TpC M2 L B := by
    obtain ⟨t1, t2, t3⟩ := tp
    have e3 : mI M2 3 = mI M 3 := by rw [s2.i 3 (by decide), s1.2.2.2.2.1 3 (by decide)]
    refine ⟨?_, t2, by rw [e3]; exact t3⟩
    rw [hM2, mI_sI, if_neg (by decide), s1.2.2.2.2.1 2 (by decide)]
    exact t1
  obtain ⟨M3, k1, k2, k3, k4⟩ := S9_takeNext w2 tp2 (Nat.zero_le _) (show mI M2 2 1 = nI 0 by rw [hM2, mI_sI, if_pos ⟨rfl, rfl⟩])
  have s13 : Sm [2] [2] M1 M3 := s2.trans k2
  have s1' : SmR [2, 22] [2] M M1 := ⟨s1.1, s1.2.1, s1.2.2.1, s1.2.2.2.1, fun x h => s1.2.2.2.2.1 x (fun z => h (by rw [List.mem_singleton.mp z]; decide)), fun x h => s1.2.2.2.2.2 x (fun z => by cases z)⟩
  refine ⟨M3, ?_, s1'.tr s13 (by decide) (by decide), by rw [s13.r]; exact r1, w1.sm s13, k3, k4, ?_, ?_⟩
  · have r10 : mR M1 22 0 = 2 := r_22_0 w1
    unfold f8_begin f9_takeFirst
    rw [aO_22 w, bM_e, aO_22 wa, bM_e, aO_22 wb, bM_e, ← hM1, aO_22 w1, r10, aO_2 w1, aO_2 w1, bM_e, show (0 : Int32) = nI 0 from rfl, ← hM2, aO_2 w2, k1, cV_some, cV_some]
  · rw [s13.i 22 (by decide), hM1, mI_sI, if_neg (by decide), mI_sI, if_pos ⟨rfl, rfl⟩]
  · rw [s13.i 22 (by decide), hM1, mI_sI, if_pos ⟨rfl, rfl⟩]
def QZ : QG := (((0, 0, 0, 0), (fun _ _ => 0), fun _ _ => 0), (fun _ => []), fun _ => [])
theorem QZ_w : WQ QZ := Q0_w QZ
theorem S7_clear {M : MM} (w : Wl M) (ha : a = 4 ∨ a = 13) : f7_clear M a = some (sI (sI (sI (sI M a 4 0) a 5 0) a 6 0) a 7 0) := by
  have w1 : Wl (sI M a 4 0) := w
  have w2 : Wl (sI (sI M a 4 0) a 5 0) := w
  have w3 : Wl (sI (sI (sI M a 4 0) a 5 0) a 6 0) := w
  unfold f7_clear
  rcases ha with e | e <;> subst e
  · rw [aO_4 w, bM_e, aO_4 w1, bM_e, aO_4 w2, bM_e, aO_4 w3, bM_e]
  · rw [aO_13 w, bM_e, aO_13 w1, bM_e, aO_13 w2, bM_e, aO_13 w3, bM_e]
theorem S8_readsProgram {M : MM} (w : Wl M) (tp : TpC M L B) (ha : a = 4 ∨ a = 13) : (∃ e M', progA L B 801 QZ (tok L B 0) = .inl e ∧ f8_readsProgram M 22 a = some (0, M') ∧ SmR (fI a) (fJ a) M M' ∧ FtC M' e) ∨ (∃ Q' t' M', progA L B 801 QZ (tok L B 0) = .inr Q' ∧ f8_readsProgram M 22 a = some (1, M') ∧ SmR (fI a) (fJ a) M M' ∧ RdC M' a L B Q' t' ∧ mI M' 22 2 = 0 ∧ mI M' 22 3 = -1) := by
  obtain ⟨M1, b1, b2, b3, b4, b5, b6, b7, b8⟩ := S8_begin w tp a
  obtain ⟨M2, hM2⟩ : ∃ M2, M2 = sI (sI (sI (sI M1 a 4 0) a 5 0) a 6 0) a 7 0 := ⟨_, rfl⟩
  have s2 : Sm (hIa a) (fJ a) M1 M2 := by rw [hM2]; exact smW0 (smW0 (smW0 (smW0 (Sm.rfl _ _ M1) _ _) _ _) _ _) _ _
  have e2 : ∀ x, x ≠ a → mI M2 x = mI M1 x := fun x hx => by rw [hM2, sI_e, mI_uI, if_neg hx, sI_e, mI_uI, if_neg hx, sI_e, mI_uI, if_neg hx, sI_e, mI_uI, if_neg hx]
  have c4 : mI M2 a 4 = nI 0 := by rw [hM2, mI_sI, if_neg (by omega), mI_sI, if_neg (by omega), mI_sI, if_neg (by omega), mI_sI, if_pos ⟨rfl, rfl⟩]; rfl
  have c5 : mI M2 a 5 = nI 0 := by rw [hM2, mI_sI, if_neg (by omega), mI_sI, if_neg (by omega), mI_sI, if_pos ⟨rfl, rfl⟩]; rfl
  have c6 : mI M2 a 6 = nI 0 := by rw [hM2, mI_sI, if_neg (by omega), mI_sI, if_pos ⟨rfl, rfl⟩]; rfl
  have c7 : mI M2 a 7 = nI 0 := by rw [hM2, mI_sI, if_pos ⟨rfl, rfl⟩]; rfl
  have tg := (tok_g (B := B) (Nat.zero_le L)).1
  have h2 : RdC M2 a L B QZ (tok L B 0) := by
    refine ⟨b4.sm s2, ?_, ?_, tg, by rw [s2.r]; exact b3, ⟨⟨ha, c4, c5, c6, c7, fun r hr => absurd hr (Nat.not_lt_zero _), fun k hk => absurd hk (Nat.not_lt_zero _)⟩, fun p hp => absurd hp (Nat.not_lt_zero _), fun p hp => absurd hp (Nat.not_lt_zero _)⟩, QZ_w⟩
    · unfold TpC
      rw [e2 2 (by omega), e2 3 (by omega)]
      exact b5
    · unfold TkC
      rw [e2 2 (by omega), show mJ M2 = mJ M1 by rw [hM2]; rfl]
      exact b6
  have hd : f8_readsProgram M 22 a = LP4 f8_readsProgram_b13_body FU M2 22 1 (nI 0) := by
    have aO : aO M1 a 7 (cV (f7_clear M1 a) fun M6 => f8_readsProgram_b13 M6 22 (1 : Int32) (0 : Int32)) = (cV (f7_clear M1 a) fun M6 => f8_readsProgram_b13 M6 22 (1 : Int32) (0 : Int32)) := by
      rcases ha with e | e <;> subst e
      · exact aO_4 b4
      · exact aO_13 b4
    unfold f8_readsProgram
    rw [aO_22 w, b1, cV_some, aO, S7_clear b4 ha, cV_some, ← hM2]
    rfl
  rw [hd]
  have fr : ∀ {M3 : MM}, Sm (fI a) (fJ a) M2 M3 → SmR (fI a) (fJ a) M M3 := fun {M3} s3 => by
    have s13 := s2.gw.trans s3
    exact ⟨fun x k h => by rw [s13.r]; exact b2.1 x k h, s13.k.trans b2.2.1, s13.z.trans b2.2.2.1, s13.n.trans b2.2.2.2.1, fun x h => (s13.i x h).trans (b2.2.2.2.2.1 x (fun z => h (by unfold fI; simp only [List.mem_cons, List.not_mem_nil, or_false] at z ⊢; omega))), fun x h => (s13.j x h).trans (b2.2.2.2.2.2 x (fun z => h (by unfold fJ; simp only [List.mem_cons, List.not_mem_nil, or_false] at z ⊢; omega)))⟩
  rcases L8_rp13 (M0 := M2) 801 0 (by omega) FU (FU_big (by omega)) M2 QZ (tok L B 0) (Sm.rfl _ _ _) h2 (Nat.zero_le _) with ⟨e, M3, z1, z2, z3, z4, z5⟩ | ⟨Q2, t2, M3, z1, z2, z3, z4⟩
  · exact .inl ⟨e, M3, z1, z2, fr z3, z4⟩
  · have i22 : mI M3 22 = mI M1 22 := by
      rw [z3.i 22 (by unfold hIa; simp only [List.mem_cons, List.not_mem_nil, or_false]; omega), e2 22 (by omega)]
    exact .inr ⟨Q2, t2, M3, z1, z2, fr z3.gw, z4, by rw [i22]; exact b7, by rw [i22]; exact b8⟩
end PROGC
