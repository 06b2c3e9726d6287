/-! THE CLASS'S SEARCH FOR THE LEAST SUMS -/
def StepR (n : Nat) (D : Nat → Nat → Nat → Bool) (P : PG) (N E : Nat → Nat) (r : Nat) : Prop :=
    (rn P r = 0 → N (ix n (rp P r) (rg P r) (rt P r)) ≤ rc P r) ∧
    (rn P r = 1 → ∀ x, x < n → N (ix n (rp P r) (rg P r) x) ≤ cp (rc P r) (E (ix n (rt P r) (ra P r) x))) ∧
    (rn P r = 2 → ∀ x, x < n → ∀ y, y < n → N (ix n (rp P r) (rg P r) x) ≤ cp (rc P r) (cp (E (ix n (rt P r) (ra P r) y)) (onw n D E y (rb P r) x)))
def Low (n : Nat) (D : Nat → Nat → Nat → Bool) (P : PG) (o : Nat) (E : Nat → Nat) (N : Nat → Nat) : Prop := (∀ e, e < 30 * n → N e ≤ FARN) ∧ StepC n D P o N N ∧ ∀ e, e < 30 * n → N e ≤ E e
def Dw (n : Nat) (D : Nat → Nat → Nat → Bool) (P : PG) (o : Nat) (E E' : Nat → Nat) : Prop :=
  (∀ e, e < 30 * n → E' e ≤ E e) ∧ (∀ e, 30 * n ≤ e → E' e = E e) ∧ (∀ N, Low n D P o E N → Low n D P o E' N)
section DW
variable {n : Nat} {D : Nat → Nat → Nat → Bool} {P : PG} {o : Nat} {E E' E'' : Nat → Nat}
theorem Dw.rfl : Dw n D P o E E := ⟨fun _ _ => Nat.le_refl _, fun _ _ => Eq.refl _, fun _ h => h⟩
theorem Dw.trans (h : Dw n D P o E E') (k : Dw n D P o E' E'') : Dw n D P o E E'' :=
  ⟨fun e he => Nat.le_trans (k.1 e he) (h.1 e he), fun e he => (k.2.1 e he).trans (h.2.1 e he), fun N hN => k.2.2 N (h.2.2 N hN)⟩
theorem Dw.low {k v : Nat} (hk : k < 30 * n) (hv : ∀ N, Low n D P o E N → N k ≤ v) : Dw n D P o E (lowE E k v) :=
  ⟨fun e _ => lowE_le e, fun e he => lowE_ne (by omega), fun N hN => ⟨hN.1, hN.2.1, fun e he => lowE_ge e (hN.2.2 e he) (fun q => by rw [q]; exact hv N hN)⟩⟩
theorem Dw.bd (h : Dw n D P o E E') {K : Nat} (b : Bd K E) : Bd K E' := fun i hi => by
  rcases Nat.lt_or_ge i (30 * n) with q | q
  · exact Nat.le_trans (h.1 i q) (b i hi)
  · rw [h.2.1 i q]
    exact b i hi
theorem Dw.rnd (h : Dw n D P o E E') (s : StepC n D P o E' E) : Rnd n D P o E E' := ⟨h.1, fun N h1 h2 h3 => (h.2.2 N ⟨h1, h2, h3⟩).2.2, s⟩
theorem StepR.mono (hp : WP P) {N : Nat → Nat} {r : Nat} (hl : r < pR P) (h : StepR n D P N E r) (k : ∀ e, e < 30 * n → E e ≤ E' e) : StepR n D P N E' r := by
  refine ⟨h.1, fun h1 x hx => ?_, fun h2 x hx y hy => ?_⟩
  · exact Nat.le_trans (h.2.1 h1 x hx) (cp_mono (Nat.le_refl _) (k _ (ix_lt (hp.t5 hl) (hp.a6 hl (by omega)) hx)))
  · exact Nat.le_trans (h.2.2 h2 x hx y hy) (cp_mono (Nat.le_refl _) (cp_mono (k _ (ix_lt (hp.t5 hl) (hp.a6 hl (by omega)) hy)) (onw_mono fun q => k _ (ix_lt q (hp.b6 hl (by omega)) hx))))
theorem StepR.monoL (hp : WP P) (hn : 5 ≤ n) {N N' : Nat → Nat} {r : Nat} (hl : r < pR P) (h : StepR n D P N E r) (k : ∀ e, e < 30 * n → N' e ≤ N e) : StepR n D P N' E r := by
  refine ⟨fun h0 => ?_, fun h1 x hx => ?_, fun h2 x hx y hy => ?_⟩
  · exact Nat.le_trans (k _ (ix_lt (hp.p5 hl) (hp.g6 hl) (Nat.lt_of_lt_of_le (hp.t5 hl) hn))) (h.1 h0)
  · exact Nat.le_trans (k _ (ix_lt (hp.p5 hl) (hp.g6 hl) hx)) (h.2.1 h1 x hx)
  · exact Nat.le_trans (k _ (ix_lt (hp.p5 hl) (hp.g6 hl) hx)) (h.2.2 h2 x hx y hy)
end DW
def DeE (D : Nat → Nat → Nat → Bool) (E : Nat → Nat) : Prop := ∀ y g x, 5 ≤ y → y < 15 → g < 6 → x < 15 → E (ix 15 y g x) = if D y g x then 0 else FARN
section SAT
variable {M : MM} {a a1 : Nat} {D : Nat → Nat → Nat → Bool} {P : PG} {o : Nat}
theorem ix_450 {y g x : Nat} (hy : 5 ≤ y) : 30 * 15 ≤ ix 15 y g x := by
  unfold ix
  omega
theorem Dw.de {E E' : Nat → Nat} (h : Dw 15 D P o E E') (k : DeE D E) : DeE D E' := fun y g x h5 hy hg hx => by
  rw [h.2.1 _ (ix_450 h5)]
  exact k y g x h5 hy hg hx
theorem onw_e {E : Nat → Nat} (k : DeE D E) {y g x : Nat} (hy : y < 15) (hg : g < 6) (hx : x < 15) : onw 15 D E y g x = E (ix 15 y g x) := by
  unfold onw
  by_cases h : y < 5
  · rw [if_pos h]
  · rw [if_neg h, k y g x (by omega) hy hg hx]
theorem L1_lowT (w : Wl M) (h : CoA a) {p g m s sp : Nat} (hp : p < 5) (hg : g < 6) (hm : m < 15) (hs : s < 6) (hsp : sp ≤ FARN) :
    ∀ (d j : Nat), j + d = 15 → ∀ f, d < f → ∀ (E : Nat → Nat) (ch : Bool), Bd 1350 E → DeE D E →
    (∀ N, Low 15 D P o E N → ∀ x, x < 15 → N (ix 15 p g x) ≤ cp sp (onw 15 D N m s x)) →
    ∃ E' ch', LP9 f1_lowerThrough_b6_body f (uJ M (a + 2) (lR E)) a (nI p) (nI g) (nI m) (nI s) (lN sp) (bI ch) (nI j) = some (bI ch', uJ M (a + 2) (lR E')) ∧ Dw 15 D P o E E' ∧
      (∀ x, j ≤ x → x < 15 → E' (ix 15 p g x) ≤ cp sp (onw 15 D E m s x)) ∧ (ch' = false → ch = false ∧ E' = E)
  | 0, j, hj, f + 1, _, E, ch, bE, dE, hN => by
    have e : j = 15 := by omega
    subst e
    refine ⟨E, ch, ?_, Dw.rfl, fun x h1 h2 => absurd h1 (by omega), fun q => ⟨q, rfl⟩⟩
    show f1_lowerThrough_b6_body _ _ _ _ _ _ _ _ _ _ = _
    unfold f1_lowerThrough_b6_body
    rw [lit_15, if_pos (nI_le (Nat.le_refl _) (by omega)), gd_e (bI_gd _)]
  | d + 1, j, hj, f + 1, hf, E, ch, bE, dE, hN => by
    have hj15 : j < 15 := by omega
    have w' : Wl (uJ M (a + 2) (lR E)) := w
    have bi := bE _ (ix15_lt hm hs hj15)
    have bv := cp_far sp (E (ix 15 m s j))
    have hk : ix 15 p g j < 30 * 15 := ix_lt hp hg hj15
    have hD : Dw 15 D P o E (lowE E (ix 15 p g j) (cp sp (E (ix 15 m s j)))) := Dw.low hk (fun N hN2 => Nat.le_trans (hN N hN2 j hj15) (cp_mono (Nat.le_refl _) (by
      rw [← onw_e dE hm hs hj15]
      exact onw_mono fun q => hN2.2.2 _ (ix_lt q hs hj15))))
    obtain ⟨E', ch', h1, h2, h3, h4⟩ := L1_lowT w h hp hg hm hs hsp d (j + 1) (by omega) f (by omega) (lowE E (ix 15 p g j) (cp sp (E (ix 15 m s j)))) (if cp sp (E (ix 15 m s j)) < E (ix 15 p g j) then true else ch) (hD.bd bE) (hD.de dE) (fun N hN2 => hN N ⟨hN2.1, hN2.2.1, fun e he => Nat.le_trans (hN2.2.2 e he) (hD.1 e he)⟩)
    refine ⟨E', ch', ?_, hD.trans h2, fun x hx1 hx2 => ?_, fun q => ?_⟩
    · rw [← h1]
      show f1_lowerThrough_b6_body _ _ _ _ _ _ _ _ _ _ = _
      unfold f1_lowerThrough_b6_body f1_lowerThrough_b41
      rw [lit_15, if_neg (nI_ge (by omega) (by omega)), Co.o w' h, S1_edge w' h hm hs hj15, cJ_some, mJ_uJ, if_pos rfl]
      show cJ (f4_sum _ (lN sp) (lN (E (ix 15 m s j)))) _ = _
      rw [S4_sum hsp bi, cJ_some, Co.o w' h, S1_lower w h bE (by omega) hg hj15 bv, cI_some, nI_1]
      by_cases c : cp sp (E (ix 15 m s j)) < E (ix 15 p g j)
      · rw [if_pos c, decide_eq_true c, bI_t, if_neg (by decide)]
      · rw [if_neg c, decide_eq_false c, bI_f, if_pos rfl]
    · by_cases e : x = j
      · subst e
        refine Nat.le_trans (h2.1 _ hk) (Nat.le_trans lowE_at ?_)
        rw [onw_e dE hm hs hx2]
        exact Nat.le_refl _
      · exact Nat.le_trans (h3 x (by omega) hx2) (cp_mono (Nat.le_refl _) (onw_mono fun q => hD.1 _ (ix_lt q hs hx2)))
    · obtain ⟨q1, q2⟩ := h4 q
      by_cases c : cp sp (E (ix 15 m s j)) < E (ix 15 p g j)
      · rw [if_pos c] at q1
        cases q1
      · rw [if_neg c] at q1
        exact ⟨q1, q2.trans (lowE_no c)⟩
theorem cp_le {a b c : Nat} (h : FARN ≤ cp a b) : c ≤ FARN → c ≤ cp a b := fun q => Nat.le_trans q h
theorem L1_lowB (w : Wl M) (h : CoA a) (hp : WP P) {r : Nat} (hr : rin P o r = true) {sec : Int32} (hs : (rn P r = 1 ∧ sec = -1) ∨ (rn P r = 2 ∧ sec = nI (rb P r))) :
    ∀ (d j : Nat), j + d = 15 → ∀ f, d < f → ∀ (E : Nat → Nat) (ch : Bool), Bd 1350 E → DeE D E →
    ∃ E' ch', LP10 f1_lowerBy_b73_body f (uJ M (a + 2) (lR E)) a (nI (rp P r)) (nI (rg P r)) (nI (rt P r)) (nI (ra P r)) sec (lN (rc P r)) (bI ch) (nI j) = some (bI ch', uJ M (a + 2) (lR E')) ∧ Dw 15 D P o E E' ∧
      (rn P r = 1 → ∀ x, j ≤ x → x < 15 → E' (ix 15 (rp P r) (rg P r) x) ≤ cp (rc P r) (E (ix 15 (rt P r) (ra P r) x))) ∧
      (rn P r = 2 → ∀ x, x < 15 → ∀ y, j ≤ y → y < 15 → E' (ix 15 (rp P r) (rg P r) x) ≤ cp (rc P r) (cp (E (ix 15 (rt P r) (ra P r) y)) (onw 15 D E y (rb P r) x))) ∧ (ch' = false → ch = false ∧ E' = E)
  | 0, j, hj, f + 1, _, E, ch, bE, dE => by
    have e : j = 15 := by omega
    subst e
    refine ⟨E, ch, ?_, Dw.rfl, fun _ x h1 h2 => absurd h1 (by omega), fun _ x _ y h1 h2 => absurd h1 (by omega), fun q => ⟨q, rfl⟩⟩
    show f1_lowerBy_b73_body _ _ _ _ _ _ _ _ _ _ _ = _
    unfold f1_lowerBy_b73_body
    rw [lit_15, if_pos (nI_le (Nat.le_refl _) (by omega)), gd_e (bI_gd _)]
  | d + 1, j, hj, f + 1, hf, E, ch, bE, dE => by
    have hj15 : j < 15 := by omega
    have hl := rin_lt hr
    have hn1 : 1 ≤ rn P r := by rcases hs with q | q <;> omega
    have w' : Wl (uJ M (a + 2) (lR E)) := w
    have p5 := hp.p5 hl
    have g6 := hp.g6 hl
    have t5 := hp.t5 hl
    have a6 := hp.a6 hl hn1
    have c99 := hp.c99 hl
    have cF : rc P r ≤ FARN := by unfold FARN; omega
    have bi := bE _ (ix15_lt (show rt P r < 15 by omega) a6 hj15)
    have bv := cp_far (rc P r) (E (ix 15 (rt P r) (ra P r) j))
    have go : ∀ (E1 : Nat → Nat) (c1 : Bool), Dw 15 D P o E E1 →
        (rn P r = 1 → E1 (ix 15 (rp P r) (rg P r) j) ≤ cp (rc P r) (E (ix 15 (rt P r) (ra P r) j))) →
        (rn P r = 2 → ∀ x, x < 15 → E1 (ix 15 (rp P r) (rg P r) x) ≤ cp (rc P r) (cp (E (ix 15 (rt P r) (ra P r) j)) (onw 15 D E j (rb P r) x))) →
        (c1 = false → ch = false ∧ E1 = E) →
        f1_lowerBy_b73_body (LP10 f1_lowerBy_b73_body f) (uJ M (a + 2) (lR E)) a (nI (rp P r)) (nI (rg P r)) (nI (rt P r)) (nI (ra P r)) sec (lN (rc P r)) (bI ch) (nI j) = LP10 f1_lowerBy_b73_body f (uJ M (a + 2) (lR E1)) a (nI (rp P r)) (nI (rg P r)) (nI (rt P r)) (nI (ra P r)) sec (lN (rc P r)) (bI c1) (nI (j + 1)) →
        ∃ E' ch', LP10 f1_lowerBy_b73_body (f + 1) (uJ M (a + 2) (lR E)) a (nI (rp P r)) (nI (rg P r)) (nI (rt P r)) (nI (ra P r)) sec (lN (rc P r)) (bI ch) (nI j) = some (bI ch', uJ M (a + 2) (lR E')) ∧ Dw 15 D P o E E' ∧
          (rn P r = 1 → ∀ x, j ≤ x → x < 15 → E' (ix 15 (rp P r) (rg P r) x) ≤ cp (rc P r) (E (ix 15 (rt P r) (ra P r) x))) ∧
          (rn P r = 2 → ∀ x, x < 15 → ∀ y, j ≤ y → y < 15 → E' (ix 15 (rp P r) (rg P r) x) ≤ cp (rc P r) (cp (E (ix 15 (rt P r) (ra P r) y)) (onw 15 D E y (rb P r) x))) ∧ (ch' = false → ch = false ∧ E' = E) := by
      intro E1 c1 hD hx1 hx2 hc hb
      obtain ⟨E', ch', h1, h2, h3, h4, h5⟩ := L1_lowB w h hp hr hs d (j + 1) (by omega) f (by omega) E1 c1 (hD.bd bE) (hD.de dE)
      refine ⟨E', ch', ?_, hD.trans h2, fun e1 x hx hx' => ?_, fun e2 x hx y hy hy' => ?_, fun q => ?_⟩
      · rw [← h1, ← hb]
        rfl
      · by_cases e : x = j
        · subst e
          exact Nat.le_trans (h2.1 _ (ix_lt p5 g6 hx')) (hx1 e1)
        · exact Nat.le_trans (h3 e1 x (by omega) hx') (cp_mono (Nat.le_refl _) (hD.1 _ (ix_lt t5 a6 hx')))
      · have b6 := hp.b6 hl (by omega)
        by_cases e : y = j
        · subst e
          exact Nat.le_trans (h2.1 _ (ix_lt p5 g6 hx)) (hx2 e2 x hx)
        · exact Nat.le_trans (h4 e2 x hx y (by omega) hy') (cp_mono (Nat.le_refl _) (cp_mono (hD.1 _ (ix_lt t5 a6 hy')) (onw_mono fun q => hD.1 _ (ix_lt q b6 hx))))
      · obtain ⟨q1, q2⟩ := h5 q
        obtain ⟨q3, q4⟩ := hc q1
        exact ⟨q3, q2.trans q4⟩
    have hhead : f1_lowerBy_b73_body (LP10 f1_lowerBy_b73_body f) (uJ M (a + 2) (lR E)) a (nI (rp P r)) (nI (rg P r)) (nI (rt P r)) (nI (ra P r)) sec (lN (rc P r)) (bI ch) (nI j) =
        if FARN ≤ cp (rc P r) (E (ix 15 (rt P r) (ra P r) j)) then LP10 f1_lowerBy_b73_body f (uJ M (a + 2) (lR E)) a (nI (rp P r)) (nI (rg P r)) (nI (rt P r)) (nI (ra P r)) sec (lN (rc P r)) (bI ch) (nI (j + 1))
        else if sec = -1 then cI (f1_lower (uJ M (a + 2) (lR E)) a (nI (rp P r)) (nI (rg P r)) (nI j) (lN (cp (rc P r) (E (ix 15 (rt P r) (ra P r) j))))) fun r120 M120 => f1_lowerBy_b139 (f1_lowerBy_b158 (LP10 f1_lowerBy_b73_body f)) M120 a (nI (rp P r)) (nI (rg P r)) (nI (rt P r)) (nI (ra P r)) sec (lN (rc P r)) (bI ch) (nI j) r120
        else cI (f1_lowerThrough (uJ M (a + 2) (lR E)) a (nI (rp P r)) (nI (rg P r)) (nI j) sec (lN (cp (rc P r) (E (ix 15 (rt P r) (ra P r) j))))) fun r120 M120 => f1_lowerBy_b139 (f1_lowerBy_b158 (LP10 f1_lowerBy_b73_body f)) M120 a (nI (rp P r)) (nI (rg P r)) (nI (rt P r)) (nI (ra P r)) sec (lN (rc P r)) (bI ch) (nI j) r120 := by
      generalize LP10 f1_lowerBy_b73_body f = K
      have e158 : f1_lowerBy_b158 K (uJ M (a + 2) (lR E)) a (nI (rp P r)) (nI (rg P r)) (nI (rt P r)) (nI (ra P r)) sec (lN (rc P r)) (bI ch) (nI j) = K (uJ M (a + 2) (lR E)) a (nI (rp P r)) (nI (rg P r)) (nI (rt P r)) (nI (ra P r)) sec (lN (rc P r)) (bI ch) (nI (j + 1)) := by
        rw [← nI_1]
        rfl
      unfold f1_lowerBy_b73_body
      rw [lit_15, if_neg (nI_ge (by omega) (by omega)), Co.o w' h, S1_edge w' h (by omega) a6 hj15, cJ_some, mJ_uJ, if_pos rfl]
      show cJ (f4_sum _ (lN (rc P r)) (lN (E (ix 15 (rt P r) (ra P r) j)))) _ = _
      rw [S4_sum cF bi, cJ_some, Co.o w' h, Co.o w' h, litF, e158]
      simp only [lN_leN FARN_lt (le63 bv)]
    have h139 : ∀ (M1 : MM) (b : Bool), f1_lowerBy_b139 (f1_lowerBy_b158 (LP10 f1_lowerBy_b73_body f)) M1 a (nI (rp P r)) (nI (rg P r)) (nI (rt P r)) (nI (ra P r)) sec (lN (rc P r)) (bI ch) (nI j) (bI b) = LP10 f1_lowerBy_b73_body f M1 a (nI (rp P r)) (nI (rg P r)) (nI (rt P r)) (nI (ra P r)) sec (lN (rc P r)) (bI (ch || b)) (nI (j + 1)) := by
      intro M1 b
      rw [← nI_1]
      cases ch <;> cases b <;> rfl
    by_cases cF2 : FARN ≤ cp (rc P r) (E (ix 15 (rt P r) (ra P r) j))
    · rw [if_pos cF2] at hhead
      refine go E ch Dw.rfl (fun _ => ?_) (fun _ x hx => ?_) (fun q => ⟨q, rfl⟩) hhead
      · exact Nat.le_trans (bE _ (ix15_lt (by omega) g6 hj15)) cF2
      · rw [← cp_assoc]
        exact Nat.le_trans (bE _ (ix15_lt (by omega) g6 hx)) (Nat.le_trans cF2 (cp_geL (cp_far _ _)))
    · rw [if_neg cF2] at hhead
      rcases hs with ⟨e1, rfl⟩ | ⟨e2, rfl⟩
      · rw [if_pos rfl, S1_lower w h bE (by omega) g6 hj15 bv, cI_some, h139] at hhead
        refine go _ _ (Dw.low (ix_lt p5 g6 hj15) fun N hN => ?_) (fun _ => lowE_at) (fun e2 => by omega) (fun q => ?_) hhead
        · exact Nat.le_trans ((hN.2.1 r hr).2.1 e1 j hj15) (cp_mono (Nat.le_refl _) (hN.2.2 _ (ix_lt t5 a6 hj15)))
        · rw [Bool.or_eq_false_iff, decide_eq_false_iff_not] at q
          exact ⟨q.1, lowE_no q.2⟩
      · have b6 := hp.b6 hl (by omega)
        rw [if_neg (nI_neM (by omega))] at hhead
        obtain ⟨E1, c1, k1, k2, k3, k4⟩ := L1_lowT (D := D) (P := P) (o := o) w h p5 g6 hj15 b6 bv 15 0 (by omega) FU (FU_big (by omega)) E false bE dE (fun N hN x hx => by
          have q := (hN.2.1 r hr).2.2 e2 x hx j hj15
          rw [← cp_assoc] at q
          exact Nat.le_trans q (cp_mono (cp_mono (Nat.le_refl _) (hN.2.2 _ (ix_lt t5 a6 hj15))) (Nat.le_refl _)))
        have k1' : f1_lowerThrough (uJ M (a + 2) (lR E)) a (nI (rp P r)) (nI (rg P r)) (nI j) (nI (rb P r)) (lN (cp (rc P r) (E (ix 15 (rt P r) (ra P r) j)))) = some (bI c1, uJ M (a + 2) (lR E1)) := k1
        rw [k1', cI_some, h139] at hhead
        refine go E1 _ k2 (fun e1 => by omega) (fun _ x hx => ?_) (fun q => ?_) hhead
        · rw [← cp_assoc]
          exact k3 x (Nat.zero_le _) hx
        · rw [Bool.or_eq_false_iff] at q
          exact ⟨q.1, (k4 q.2).2⟩
theorem S1_lowerBy (w : Wl M) (h : CoA a) (hp : WP P) (hP : PgC M a1 P) {r : Nat} (hr : rin P o r = true) {E : Nat → Nat} (bE : Bd 1350 E) (dE : DeE D E) :
    ∃ E' ch', f1_lowerBy (uJ M (a + 2) (lR E)) a a1 (nI r) = some (bI ch', uJ M (a + 2) (lR E')) ∧ Dw 15 D P o E E' ∧ StepR 15 D P E' E r ∧ (ch' = false → E' = E) := by
  have hl := rin_lt hr
  have w' : Wl (uJ M (a + 2) (lR E)) := w
  have hP' : PgC (uJ M (a + 2) (lR E)) a1 P := hP
  have p5 := hp.p5 hl
  have g6 := hp.g6 hl
  have t5 := hp.t5 hl
  have n2 := hp.n2 hl
  have c99 := hp.c99 hl
  have cF : rc P r ≤ FARN := by unfold FARN; omega
  have e0 : f1_lowerBy (uJ M (a + 2) (lR E)) a a1 (nI r) = if rn P r = 0 then cI (f1_lower (uJ M (a + 2) (lR E)) a (nI (rp P r)) (nI (rg P r)) (nI (rt P r)) (lN (rc P r))) fun r63 M63 => gd (r63 = 0 ∨ r63 = 1) (some (r63, M63))
      else f1_lowerBy_b73 (uJ M (a + 2) (lR E)) a (nI (rp P r)) (nI (rg P r)) (nI (rt P r)) (nI (ra P r)) (if rn P r ≤ 1 then -1 else nI (rb P r)) (lN (rc P r)) 0 0 := by
    unfold f1_lowerBy
    rw [hP'.o w', S7_or0 w' hP' hl hp, cI_some, hP'.o w', S7_or1 w' hP' hl hp, cI_some, hP'.o w', S7_or2 w' hP' hl hp, cI_some, hP'.o w', S7_or4 w' hP' hl hp, cI_some, hP'.o w', S7_or5 w' hP' hl hp, cI_some, hP'.o w', S7_or6 w' hP' hl hp, cI_some, nI_l64 (by omega), bW_e, Co.o w' h]
    by_cases c : rn P r = 0
    · simp only [if_pos c, if_true]
    · have a6 := hp.a6 hl (by omega)
      simp only [if_neg c]
      rw [if_neg (nI_neM (by omega))]
  rw [e0]
  by_cases c : rn P r = 0
  · rw [if_pos c, S1_lower w h bE (by omega) g6 (by omega) cF, cI_some, gd_e (bI_gd _)]
    refine ⟨_, _, rfl, Dw.low (ix_lt p5 g6 (by omega)) (fun N hN => (hN.2.1 r hr).1 c), ⟨fun _ => lowE_at, fun e => by omega, fun e => by omega⟩, fun q => ?_⟩
    rw [decide_eq_false_iff_not] at q
    exact lowE_no q
  · rw [if_neg c]
    have hs : (rn P r = 1 ∧ (if rn P r ≤ 1 then (-1 : Int32) else nI (rb P r)) = -1) ∨ (rn P r = 2 ∧ (if rn P r ≤ 1 then (-1 : Int32) else nI (rb P r)) = nI (rb P r)) := by
      by_cases c1 : rn P r ≤ 1
      · exact .inl ⟨by omega, if_pos c1⟩
      · exact .inr ⟨by omega, if_neg c1⟩
    obtain ⟨E', ch', h1, h2, h3, h4, h5⟩ := L1_lowB (D := D) w h hp hr hs 15 0 (by omega) FU (FU_big (by omega)) E false bE dE
    exact ⟨E', ch', h1, h2, ⟨fun e => absurd e c, fun e x hx => h3 e x (Nat.zero_le _) hx, fun e x hx y hy => h4 e x hx y (Nat.zero_le _) hy⟩, fun q => (h5 q).2⟩
theorem L1_sat22 (w : Wl M) (h : CoA a) (hp : WP P) (hP : PgC M a1 P) (ho : o < 2 ^ 31) (rnd : Nat) :
    ∀ (d j : Nat), j + d = pR P → ∀ f, d < f → ∀ (E : Nat → Nat) (ch : Bool), Bd 1350 E → DeE D E →
    ∃ E' ch', (∀ K, LP7 (f1_saturate_b22_body K) f (uJ M (a + 2) (lR E)) a a1 (nI o) (bI ch) (nI rnd) (nI j) = K (uJ M (a + 2) (lR E')) a a1 (nI o) (bI ch') (nI (rnd + 1))) ∧ Dw 15 D P o E E' ∧
      (∀ r, j ≤ r → rin P o r = true → StepR 15 D P E' E r) ∧ (ch' = false → ch = false ∧ E' = E)
  | 0, j, hj, f + 1, _, E, ch, bE, dE => by
    have hP' : PgC (uJ M (a + 2) (lR E)) a1 P := hP
    have w' : Wl (uJ M (a + 2) (lR E)) := w
    refine ⟨E, ch, fun K => ?_, Dw.rfl, fun r hr hi => absurd (rin_lt hi) (by omega), fun q => ⟨q, rfl⟩⟩
    show f1_saturate_b22_body _ _ _ _ _ _ _ _ _ = _
    unfold f1_saturate_b22_body
    have h14 := hp.2.2.1
    rw [hP'.o w', hP'.r, if_pos (nI_le (by omega) (by omega)), nI_1]
  | d + 1, j, hj, f + 1, hf, E, ch, bE, dE => by
    have hP' : PgC (uJ M (a + 2) (lR E)) a1 P := hP
    have w' : Wl (uJ M (a + 2) (lR E)) := w
    have h14 := hp.2.2.1
    have hjl : j < pR P := by omega
    have hhead : ∀ K, LP7 (f1_saturate_b22_body K) (f + 1) (uJ M (a + 2) (lR E)) a a1 (nI o) (bI ch) (nI rnd) (nI j) = if rin P o j = true then cI (f1_lowerBy (uJ M (a + 2) (lR E)) a a1 (nI j)) fun r45 M45 => if r45 = 0 then LP7 (f1_saturate_b22_body K) f M45 a a1 (nI o) (bI ch) (nI rnd) (nI (j + 1)) else LP7 (f1_saturate_b22_body K) f M45 a a1 (nI o) (bI true) (nI rnd) (nI (j + 1))
        else LP7 (f1_saturate_b22_body K) f (uJ M (a + 2) (lR E)) a a1 (nI o) (bI ch) (nI rnd) (nI (j + 1)) := by
      intro K
      show f1_saturate_b22_body _ _ _ _ _ _ _ _ _ = _
      unfold f1_saturate_b22_body f1_saturate_b53
      rw [hP'.o w', hP'.r, if_neg (nI_ge hjl (by omega)), hP'.o w', S7_isIn w' hP' hp (by omega) ho, cI_some, Co.o w' h, nI_1]
      by_cases c : rin P o j = true
      · rw [if_pos c, c, bI_t, if_neg (by decide)]
      · rw [if_neg c]
        simp only [Bool.not_eq_true] at c
        rw [c, bI_f, if_pos rfl]
    by_cases c : rin P o j = true
    · obtain ⟨E1, c1, k1, k2, k3, k4⟩ := S1_lowerBy (D := D) w h hp hP c bE dE
      obtain ⟨E', ch', h1, h2, h3, h4⟩ := L1_sat22 w h hp hP ho rnd d (j + 1) (by omega) f (by omega) E1 (if c1 = true then true else ch) (k2.bd bE) (k2.de dE)
      refine ⟨E', ch', fun K => ?_, k2.trans h2, fun r hr hi => ?_, fun q => ?_⟩
      · rw [hhead, if_pos c, k1, cI_some, ← h1 K]
        cases c1 <;> rfl
      · by_cases e : r = j
        · subst e
          exact k3.monoL hp (by omega) hjl h2.1
        · exact (h3 r (by omega) hi).mono hp (rin_lt hi) k2.1
      · obtain ⟨q1, q2⟩ := h4 q
        cases c1
        · exact ⟨q1, q2.trans (k4 rfl)⟩
        · cases q1
    · obtain ⟨E', ch', h1, h2, h3, h4⟩ := L1_sat22 w h hp hP ho rnd d (j + 1) (by omega) f (by omega) E ch bE dE
      refine ⟨E', ch', fun K => ?_, h2, fun r hr hi => ?_, h4⟩
      · rw [hhead, if_neg c, h1]
      · by_cases e : r = j
        · subst e
          exact absurd hi c
        · exact h3 r (by omega) hi
def NfLe (E L : Nat → Nat) (k d : Nat) : Prop := nf E L k ≤ d
set_option maxRecDepth 8000 in
theorem L1_sat5 (w : Wl M) (h : CoA a) (hp : WP P) (hP : PgC M a1 P) (ho : o < 2 ^ 31) {I : Nat → Bool} {L : Nat → Nat} (hL : GC 15 I D P o L) {R : Nat} (hR451 : R = 451) :
    ∀ (d j : Nat), j + d = R → ∀ f, d < f → ∀ (E : Nat → Nat) (ch : Bool), Bd 1350 E → DeE D E → Stg 15 I E L → NfLe E L 450 (d - 1) → (ch = false → ∀ e, e < 450 → E e = L e) →
    ∃ E', LP6 f1_saturate_b5_body f (uJ M (a + 2) (lR E)) a a1 (nI o) (bI ch) (nI j) = some (uJ M (a + 2) (lR E')) ∧ (∀ e, e < 450 → E' e = L e) ∧ (∀ e, 450 ≤ e → E' e = E e)
  | 0, j, hj, f + 1, hf, E, ch, bE, dE, sE, hc, hch => by
    refine ⟨E, ?_, nf_0 450 (Nat.le_zero.mp hc), fun _ _ => rfl⟩
    show f1_saturate_b5_body _ _ _ _ _ _ _ = _
    generalize LP6 f1_saturate_b5_body f = K
    unfold f1_saturate_b5_body
    rw [lit_451, if_pos (nI_le (show 451 ≤ j by omega) (by omega))]
    split <;> rfl
  | d + 1, j, hj, f + 1, hf, E, ch, bE, dE, sE, hc, hch => by
    have hhead : LP6 f1_saturate_b5_body (f + 1) (uJ M (a + 2) (lR E)) a a1 (nI o) (bI ch) (nI j) = if ch = true then LP7 (f1_saturate_b22_body (LP6 f1_saturate_b5_body f)) FU (uJ M (a + 2) (lR E)) a a1 (nI o) (bI false) (nI j) (nI 0) else some (uJ M (a + 2) (lR E)) := by
      show f1_saturate_b5_body _ _ _ _ _ _ _ = _
      generalize LP6 f1_saturate_b5_body f = K
      unfold f1_saturate_b5_body f1_saturate_b22
      cases ch
      · rfl
      · rw [bI_t, if_neg (by decide), lit_451, if_neg (nI_ge (by omega) (by omega)), if_pos rfl]
        rfl
    rw [hhead]
    cases ch
    · exact ⟨E, rfl, hch rfl, fun _ _ => rfl⟩
    · rw [if_pos rfl]
      obtain ⟨E1, c1, k1, k2, k3, k4⟩ := L1_sat22 (D := D) w h hp hP ho j (pR P) 0 (by omega) FU (FU_big (by have := hp.2.2.1; omega)) E false bE dE
      rw [k1]
      have hR : Rnd 15 D P o E E1 := k2.rnd (fun r hr => k3 r (Nat.zero_le _) hr)
      have hcnt : nf E1 L 450 < nf E L 450 ∨ (nf E L 450 = 0 ∧ nf E1 L 450 = 0) := hR.cnt hp (by omega) hL sE
      have hc' : nf E L 450 ≤ d + 1 - 1 := hc
      obtain ⟨E', h1, h2, h3⟩ := L1_sat5 w h hp hP ho hL hR451 d (j + 1) (by omega) f (by omega) E1 c1 (k2.bd bE) (k2.de dE) (hR.stg hL sE) (show nf E1 L 450 ≤ d - 1 by omega) (fun q => by
        have e1 := (k4 q).2
        rw [e1]
        exact hR.fin hp (by omega) hL sE (fun e _ => by rw [e1]))
      exact ⟨E', h1, h2, fun e he => (h3 e he).trans (k2.2.1 e he)⟩
theorem S1_saturate (w : Wl M) (h : CoA a) (hp : WP P) (hP : PgC M a1 P) (ho : o < 2 ^ 31) {I : Nat → Bool} {L : Nat → Nat} (hL : GC 15 I D P o L) {E : Nat → Nat} (bE : Bd 1350 E) (dE : DeE D E) (sE : Stg 15 I E L) :
    ∃ E', f1_saturate (uJ M (a + 2) (lR E)) a a1 (nI o) = some (uJ M (a + 2) (lR E')) ∧ (∀ e, e < 450 → E' e = L e) ∧ (∀ e, 450 ≤ e → E' e = E e) :=
  L1_sat5 w h hp hP ho hL rfl 451 0 (by omega) FU (FU_big (by omega)) E true bE dE sE (nf_top _ _ _) (fun q => by cases q)
end SAT
