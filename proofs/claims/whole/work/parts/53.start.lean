/-! WHAT THE CLASS AIMS AT -/
theorem uJ_comm (M : MM) {x y : Nat} (h : x ≠ y) (r s : Nat → Int64) : uJ (uJ M x r) y s = uJ (uJ M y s) x r := by
  unfold uJ mJ
  congr 1
  congr 1
  funext z
  unfold upr
  by_cases h1 : z = y
  · by_cases h2 : z = x
    · exact absurd (h2.symm.trans h1) h
    · simp [h1]
      intro q
      exact absurd q.symm h
  · by_cases h2 : z = x <;> simp [h1, h2]
    intro q
    exact absurd q h
def tw (M : MM) (a : Nat) (E R : Nat → Nat) : MM := uJ (uJ M (a + 4) (lR R)) (a + 2) (lR E)
theorem tw_c (M : MM) (a : Nat) (E R : Nat → Nat) : tw M a E R = uJ (uJ M (a + 2) (lR E)) (a + 4) (lR R) := uJ_comm M (by omega) _ _
def ES (S : Nat → Bool) (g : Nat → Nat) : Nat → Nat := fun i => if i < 1350 then (if S i then 0 else FARN) else g i
def ER (S : Nat → Bool) (g : Nat → Nat) : Nat → Nat := fun i => if i < 15 then (if S i then 0 else FARN) else g i
theorem ES_bd {S : Nat → Bool} {g : Nat → Nat} : Bd 1350 (ES S g) := fun i hi => by
  unfold ES
  rw [if_pos hi]
  split
  · exact Nat.zero_le _
  · exact Nat.le_refl _
theorem ES_low {S : Nat → Bool} {g : Nat → Nat} {k : Nat} (hk : k < 1350) : lowE (ES S g) k 0 = ES (fun i => S i || i == k) g := by
  funext i
  unfold lowE
  by_cases c : S k = true
  · have e : ES S g k = 0 := by
      unfold ES
      rw [if_pos hk, if_pos c]
    rw [e, if_neg (by omega)]
    unfold ES
    by_cases q : i = k
    · subst q
      simp [c]
    · simp [q]
  · have e : ES S g k = FARN := by
      unfold ES
      rw [if_pos hk, if_neg c]
    rw [e, if_pos (by decide), upx_e]
    unfold ES
    by_cases q : i = k
    · subst q
      simp [hk]
    · simp [q]
theorem ER_low {S : Nat → Bool} {g : Nat → Nat} {k : Nat} (hk : k < 15) : upx (ER S g) k 0 = ER (fun i => S i || i == k) g := by
  funext i
  rw [upx_e]
  unfold ER
  by_cases q : i = k
  · subst q
    simp [hk]
  · simp [q]
abbrev TG : Type := Nat × (Nat → Nat) × (Nat → Nat) × (Nat → Nat) × (Nat → Nat → Nat)
def tK (T : TG) : Nat := T.1
def tS (T : TG) (k : Nat) : Nat := T.2.1 k
def tN (T : TG) (k : Nat) : Nat := T.2.2.1 k
def tM (T : TG) (k : Nat) : Nat := T.2.2.2.1 k
def tG (T : TG) (k i : Nat) : Nat := T.2.2.2.2 k i
def gTG (P : PG) : TG := (pK P, kp P, kn P, km P, ks P)
def hTG (p g : Nat) : TG := (1, fun _ => p, fun _ => 1, fun _ => 1, fun _ _ => g)
def nTG (p : Nat) : TG := (1, fun _ => p, fun _ => 0, fun _ => 0, fun _ _ => 0)
def nodeC (T : TG) (k j : Nat) : Nat := if j = 0 then tS T k else if j = tN T k then (if tM T k = 1 then 5 else 6) else 7 + 2 * k + (j - 1)
def aimS (sg : Nat) (T : TG) (k i : Nat) : Bool := (decide (tN T k = 0) && (decide (tM T k = 1) && (List.range sg).any (fun g => i == ix 15 (tS T k) g 5))) || (List.range (tN T k)).any (fun j => i == ix 15 (nodeC T k j) (tG T k j) (nodeC T k (j + 1)))
def endS (T : TG) (x : Nat) : Bool := (x == 5 || x == 6) || (List.range (tK T)).any (fun k => decide (tN T k = 0) && x == tS T k)
def allS (sg : Nat) (T : TG) (i : Nat) : Bool := (List.range sg).any (fun g => i == ix 15 5 g 5) || (List.range (tK T)).any (fun k => aimS sg T k i)
theorem any_succ (f : Nat → Bool) (n : Nat) : (List.range (n + 1)).any f = ((List.range n).any f || f n) := by
  rw [List.range_succ, List.any_append]
  simp
section STA
variable {M : MM} {a a1 : Nat} {P : PG}
theorem tw_low (w : Wl M) (h : CoA a) {E R : Nat → Nat} (hE : Bd 1350 E) {y g x v : Nat} (hy : y < 15) (hg : g < 6) (hx : x < 15) (hv : v ≤ FARN) :
    f1_lower (tw M a E R) a (nI y) (nI g) (nI x) (lN v) = some (bI (decide (v < E (ix 15 y g x))), tw M a (lowE E (ix 15 y g x) v) R) :=
  S1_lower (M := uJ M (a + 4) (lR R)) w h hE hy hg hx hv
theorem tw_aim (w : Wl M) (h : CoA a) {E R : Nat → Nat} {x : Nat} (hx : x < 15) : f1_aimAtNothing (tw M a E R) a (nI x) = some (tw M a E (upx R x 0)) := by
  rw [tw_c, tw_c]
  exact S1_aimN (M := uJ M (a + 2) (lR E)) w h hx
theorem tw_o (w : Wl M) (h : CoA a) {E R : Nat → Nat} {β : Type} {o : Option β} : aO (tw M a E R) a 1 o = o := Co.o (M := tw M a E R) w h
theorem tw_head (w : Wl M) (h : CoA a) {S : Nat → Bool} {g R : Nat → Nat} {p s : Nat} (hp : p < 15) (hs : s < 6) : f1_aimAtHead (tw M a (ES S g) R) a (nI p) (nI s) = some (tw M a (ES (fun i => S i || i == ix 15 p s 5) g) R) := by
  unfold f1_aimAtHead
  rw [tw_o w h, litJ0, lit_5, tw_low w h ES_bd hp hs (by omega) (Nat.zero_le _), cI_some, ES_low (ix15_lt hp hs (by omega))]
theorem L1_start12 (w : Wl M) (h : CoA a) {sg : Nat} (hsg : sg ≤ 6) {g R : Nat → Nat} : ∀ (d j : Nat), j + d = sg → ∀ f, d < f →
    LP4 f1_start_b12_body f (tw M a (ES (fun i => (List.range j).any (fun g => i == ix 15 5 g 5)) g) R) a (nI sg) (nI j) = f1_start_b34 (tw M a (ES (fun i => (List.range sg).any (fun g => i == ix 15 5 g 5)) g) R) a 0
  | 0, j, hj, f + 1, _ => by
    have e : j = sg := by omega
    subst e
    show f1_start_b12_body _ _ _ _ _ = _
    generalize LP4 f1_start_b12_body f = K
    unfold f1_start_b12_body
    rw [if_pos (nI_le (Nat.le_refl _) (by omega))]
  | d + 1, j, hj, f + 1, hf => by
    have ih := L1_start12 w h hsg (g := g) (R := R) d (j + 1) (by omega) f (by omega)
    show f1_start_b12_body _ _ _ _ _ = _
    generalize LP4 f1_start_b12_body f = K at ih ⊢
    unfold f1_start_b12_body
    rw [if_neg (nI_ge (by omega) (by omega)), tw_o w h, lit_5, litJ0, tw_low w h ES_bd (by omega) (by omega) (by omega) (Nat.zero_le _), cI_some, ES_low (ix15_lt (by omega) (by omega) (by omega)), nI_1, ← ih]
    congr 3
    funext i
    rw [any_succ]
theorem L1_start34 (w : Wl M) (h : CoA a) {E g : Nat → Nat} : ∀ (d j : Nat), j + d = 15 → ∀ f, d < f →
    LP3 f1_start_b34_body f (tw M a E (fun i => if i < j then FARN else g i)) a (nI j) = some (tw M a E (ER (fun i => i == 5 || i == 6) g))
  | 0, j, hj, f + 1, _ => by
    have e : j = 15 := by omega
    subst e
    show f1_start_b34_body _ _ _ _ = _
    generalize LP3 f1_start_b34_body f = K
    unfold f1_start_b34_body
    have e0 : (fun i => if i < 15 then FARN else g i) = ER (fun _ => false) g := by
      funext i
      unfold ER
      rfl
    rw [lit_15, if_pos (nI_le (Nat.le_refl _) (by omega)), tw_o w h, lit_5, e0, tw_aim w h (by omega), cV_some, ER_low (by omega), tw_o w h, lit_6, tw_aim w h (by omega), cV_some, ER_low (by omega)]
    rfl
  | d + 1, j, hj, f + 1, hf => by
    have ih := L1_start34 w h (E := E) (g := g) d (j + 1) (by omega) f (by omega)
    have h2 : nrw a ≥ 615 := by unfold nrw; split <;> omega
    have h3 := nrw_lt a
    show f1_start_b34_body _ _ _ _ = _
    generalize LP3 f1_start_b34_body f = K at ih ⊢
    unfold f1_start_b34_body
    rw [lit_15, if_neg (nI_ge (by omega) (by omega)), tw_o w h, tw_c]
    have w' : Wl (uJ (uJ M (a + 2) (lR E)) (a + 4) (lR (fun i => if i < j then FARN else g i))) := w
    rw [Co.r1 w' h, Co.o3 w' h, Co.setR w' h, cV_some, pJ_in (by omega) (by omega), mJ_uJ, if_pos rfl, uJ_uJ, litF, lR_upx, nI_1, ← ih, tw_c]
    congr 3
    funext i
    rw [upx_e]
    by_cases c : i = j
    · simp [c]
    · by_cases c2 : i < j
      · simp [c2, show i < j + 1 by omega]
      · simp [c, c2, show ¬ i < j + 1 by omega]
theorem S1_start (w : Wl M) (h : CoA a) {sg : Nat} (hsg : sg ≤ 6) (E0 R0 : Nat → Nat) : f1_start (tw M a E0 R0) a (nI sg) = some (tw M a (ES (fun i => (List.range sg).any (fun g => i == ix 15 5 g 5)) E0) (ER (fun i => i == 5 || i == 6) R0)) := by
  have w' : Wl (tw M a E0 R0) := w
  unfold f1_start
  rw [tw_o w h, Co.r0 w' h, Co.o1 w' h, Co.fill w' h, cV_some]
  have e : uJ (tw M a E0 R0) (a + 2) (fun k => if k < 1350 then 1000000000000001 else mJ (tw M a E0 R0) (a + 2) k) = tw M a (ES (fun i => (List.range 0).any (fun g => i == ix 15 5 g 5)) E0) R0 := by
    unfold tw
    rw [uJ_uJ]
    congr 1
    funext k
    rw [mJ_uJ, if_pos rfl, litF]
    unfold lR ES
    by_cases c : k < 1350 <;> simp [c]
  rw [e]
  refine (L1_start12 w h hsg (g := E0) (R := R0) sg 0 (by omega) FU (FU_big (by omega))).trans ?_
  have e2 := L1_start34 w h (E := ES (fun i => (List.range sg).any (fun g => i == ix 15 5 g 5)) E0) (g := R0) 15 0 (by omega) FU (FU_big (by omega))
  refine Eq.trans ?_ e2
  show LP3 f1_start_b34_body FU _ _ _ = _
  congr 2
theorem tw_p {E R : Nat → Nat} (hP : PgC M a1 P) : PgC (tw M a E R) a1 P := hP
theorem nodeC_lt {k j : Nat} (hp : WP P) (hk : k < pK P) (hj : j ≤ kn P k) : nodeC (gTG P) k j < 15 := by
  have h := (hp.2.2.2.2.2 k hk)
  have h1 := hp.1
  have h4 := hp.2.2.2.1
  unfold nodeC
  split
  · exact Nat.lt_of_lt_of_le h.1 (by omega)
  · split
    · split <;> omega
    · next c1 c2 =>
      have : j ≠ kn P k := c2
      omega
theorem L1_aim80 (w : Wl M) (h : CoA a) (hp : WP P) (hP : PgC M a1 P) {k : Nat} (hk : k < pK P) {g R : Nat → Nat} {S : Nat → Bool} : ∀ (d j : Nat), j + d = kn P k → ∀ f, d < f →
    LP8 f1_aimAtGoal_b80_body f (tw M a (ES (fun i => S i || (List.range j).any (fun j => i == ix 15 (nodeC (gTG P) k j) (tG (gTG P) k j) (nodeC (gTG P) k (j + 1)))) g) R) a a1 (nI k) (nI (kn P k)) (bI (decide (km P k = 1))) (nI (nodeC (gTG P) k j)) (nI j) =
      some (tw M a (ES (fun i => S i || (List.range (kn P k)).any (fun j => i == ix 15 (nodeC (gTG P) k j) (tG (gTG P) k j) (nodeC (gTG P) k (j + 1)))) g) R)
  | 0, j, hj, f + 1, _ => by
    have h3 := (hp.2.2.2.2.2 k hk).2.1
    have e : j = kn P k := by omega
    rw [e]
    show f1_aimAtGoal_b80_body _ _ _ _ _ _ _ _ _ = _
    generalize LP8 f1_aimAtGoal_b80_body f = K
    unfold f1_aimAtGoal_b80_body
    rw [if_pos (nI_le (Nat.le_refl _) (by omega))]
  | d + 1, j, hj, f + 1, hf => by
    have hK := hp.2.2.2.2.2 k hk
    have h3 := hK.2.1
    have h4 := hp.2.2.2.1
    have g6 := hp.2.1
    have ih := L1_aim80 w h hp hP hk (g := g) (R := R) (S := S) d (j + 1) (by omega) f (by omega)
    have wt : ∀ {E R}, Wl (tw M a E R) := w
    show f1_aimAtGoal_b80_body _ _ _ _ _ _ _ _ _ = _
    generalize LP8 f1_aimAtGoal_b80_body f = K at ih ⊢
    unfold f1_aimAtGoal_b80_body
    have hsg : ks P k j < 6 := Nat.lt_of_lt_of_le (hK.2.2.2 j (by omega)) g6
    have e118 : ∀ t, t = nodeC (gTG P) k (j + 1) → f1_aimAtGoal_b118 K (tw M a (ES (fun i => S i || (List.range j).any (fun j => i == ix 15 (nodeC (gTG P) k j) (tG (gTG P) k j) (nodeC (gTG P) k (j + 1)))) g) R) a a1 (nI k) (nI (kn P k)) (bI (decide (km P k = 1))) (nI (nodeC (gTG P) k j)) (nI j) (nI t) = some (tw M a (ES (fun i => S i || (List.range (kn P k)).any (fun j => i == ix 15 (nodeC (gTG P) k j) (tG (gTG P) k j) (nodeC (gTG P) k (j + 1)))) g) R) := by
      intro t ht
      subst ht
      unfold f1_aimAtGoal_b118
      rw [(tw_p hP).o wt, lit_3, nI_add, S7_ofGoal wt (tw_p hP) hk (by omega) hp, cI_some, tw_o w h, litJ0, show P.2.2 k (3 + j) = ks P k j from rfl, tw_low w h ES_bd (nodeC_lt hp hk (show j ≤ kn P k by omega)) hsg (nodeC_lt hp hk (show j + 1 ≤ kn P k by omega)) (Nat.zero_le _), cI_some, ES_low (ix15_lt (nodeC_lt hp hk (show j ≤ kn P k by omega)) hsg (nodeC_lt hp hk (show j + 1 ≤ kn P k by omega))), nI_1, ← ih]
      congr 3
      funext i
      rw [any_succ, ← Bool.or_assoc]
      rfl
    have e97 : ∀ t, (j + 1 = kn P k → t = nodeC (gTG P) k (j + 1)) → f1_aimAtGoal_b97 K (tw M a (ES (fun i => S i || (List.range j).any (fun j => i == ix 15 (nodeC (gTG P) k j) (tG (gTG P) k j) (nodeC (gTG P) k (j + 1)))) g) R) a a1 (nI k) (nI (kn P k)) (bI (decide (km P k = 1))) (nI (nodeC (gTG P) k j)) (nI j) (nI t) = some (tw M a (ES (fun i => S i || (List.range (kn P k)).any (fun j => i == ix 15 (nodeC (gTG P) k j) (tG (gTG P) k j) (nodeC (gTG P) k (j + 1)))) g) R) := by
      intro t ht
      unfold f1_aimAtGoal_b97
      rw [nI_sub1 (by omega)]
      by_cases c : j + 1 = kn P k
      · rw [if_pos (nI_le (by omega) (by omega)), e118 t (ht c)]
      · rw [if_neg (nI_ge (by omega) (by omega)), bW_e, lit_7, lit_2, nI_mulN, nI_add, nI_add]
        refine e118 _ ?_
        unfold nodeC
        rw [if_neg (by omega), if_neg (show ¬ j + 1 = tN (gTG P) k from c)]
        omega
    rw [if_neg (nI_ge (by omega) (by omega))]
    by_cases c : km P k = 1
    · rw [decide_eq_true c, bI_t] at *
      rw [if_neg (by decide), lit_5]
      refine e97 5 (fun q => ?_)
      unfold nodeC
      rw [if_neg (by omega), if_pos (show j + 1 = tN (gTG P) k from q), if_pos (show tM (gTG P) k = 1 from c)]
    · rw [decide_eq_false c, bI_f] at *
      rw [if_pos rfl, lit_6]
      refine e97 6 (fun q => ?_)
      unfold nodeC
      rw [if_neg (by omega), if_pos (show j + 1 = tN (gTG P) k from q), if_neg (show ¬ tM (gTG P) k = 1 from c)]
theorem L1_aim45 (w : Wl M) (h : CoA a) (hp : WP P) (hP : PgC M a1 P) {k : Nat} (hk : k < pK P) (hk0 : kn P k = 0) (hm : km P k = 1) {g R : Nat → Nat} {S : Nat → Bool} : ∀ (d j : Nat), j + d = pG P → ∀ f, d < f →
    LP8 f1_aimAtGoal_b45_body f (tw M a (ES (fun i => S i || (List.range j).any (fun g => i == ix 15 (kp P k) g 5)) g) R) a a1 (nI k) (nI (kn P k)) 1 (nI (kp P k)) (nI j) =
      f1_aimAtGoal_b77 (tw M a (ES (fun i => S i || (List.range (pG P)).any (fun g => i == ix 15 (kp P k) g 5)) g) R) a a1 (nI k) (nI (kn P k)) 1 (nI (kp P k))
  | 0, j, hj, f + 1, _ => by
    have g6 := hp.2.1
    have e : j = pG P := by omega
    rw [e]
    show f1_aimAtGoal_b45_body _ _ _ _ _ _ _ _ _ = _
    generalize LP8 f1_aimAtGoal_b45_body f = K
    unfold f1_aimAtGoal_b45_body
    have wt : ∀ {E R}, Wl (tw M a E R) := w
    rw [if_pos (show nI (kn P k) = 0 by rw [hk0]; rfl), if_neg (by decide), (tw_p hP).o wt, (tw_p hP).g, if_pos (nI_le (Nat.le_refl _) (by omega))]
  | d + 1, j, hj, f + 1, hf => by
    have g6 := hp.2.1
    have p5 : kp P k < 5 := Nat.lt_of_lt_of_le (hp.2.2.2.2.2 k hk).1 hp.1
    have ih := L1_aim45 w h hp hP hk hk0 hm (g := g) (R := R) (S := S) d (j + 1) (by omega) f (by omega)
    show f1_aimAtGoal_b45_body _ _ _ _ _ _ _ _ _ = _
    generalize LP8 f1_aimAtGoal_b45_body f = K at ih ⊢
    unfold f1_aimAtGoal_b45_body
    have wt : ∀ {E R}, Wl (tw M a E R) := w
    rw [if_pos (show nI (kn P k) = 0 by rw [hk0]; rfl), if_neg (by decide), (tw_p hP).o wt, (tw_p hP).g, if_neg (nI_ge (by omega) (by omega)), tw_o w h, tw_head w h (by omega) (by omega), cV_some, nI_1, ← ih]
    congr 3
    funext i
    rw [any_succ, ← Bool.or_assoc]
theorem S1_aimGoal (w : Wl M) (h : CoA a) (hp : WP P) (hP : PgC M a1 P) {k : Nat} (hk : k < pK P) {g R : Nat → Nat} {S T : Nat → Bool} :
    f1_aimAtGoal (tw M a (ES S g) (ER T R)) a a1 (nI k) = some (tw M a (ES (fun i => S i || aimS (pG P) (gTG P) k i) g) (ER (fun i => T i || (decide (tN (gTG P) k = 0) && i == tS (gTG P) k)) R)) := by
  have hK := hp.2.2.2.2.2 k hk
  have h3 := hK.2.1
  have p5 : kp P k < 5 := Nat.lt_of_lt_of_le hK.1 hp.1
  have wt : ∀ {E R}, Wl (tw M a E R) := w
  have e80 : ∀ (S : Nat → Bool) (R : Nat → Nat), f1_aimAtGoal_b77 (tw M a (ES S g) R) a a1 (nI k) (nI (kn P k)) (bI (decide (km P k = 1))) (nI (kp P k)) = some (tw M a (ES (fun i => S i || (List.range (kn P k)).any (fun j => i == ix 15 (nodeC (gTG P) k j) (tG (gTG P) k j) (nodeC (gTG P) k (j + 1)))) g) R) := by
    intro S R
    rw [← L1_aim80 w h hp hP hk (g := g) (R := R) (S := S) (kn P k) 0 (by omega) FU (FU_big (by omega))]
    show LP8 f1_aimAtGoal_b80_body FU _ _ _ _ _ _ _ _ = _
    congr 3
    funext i
    simp
  have e42 : ∀ (S : Nat → Bool) (R : Nat → Nat), f1_aimAtGoal_b42 (tw M a (ES S g) R) a a1 (nI k) (nI (kn P k)) (bI (decide (km P k = 1))) (nI (kp P k)) = some (tw M a (ES (fun i => S i || aimS (pG P) (gTG P) k i) g) R) := by
    intro S R
    show LP8 f1_aimAtGoal_b45_body FU _ _ _ _ _ _ _ _ = _
    by_cases c0 : kn P k = 0
    · by_cases c1 : km P k = 1
      · have q := L1_aim45 w h hp hP hk c0 c1 (g := g) (R := R) (S := S) (pG P) 0 (by omega) FU (FU_big (by have := hp.2.1; omega))
        rw [decide_eq_true c1, bI_t]
        rw [decide_eq_true c1, bI_t] at e80
        rw [e80] at q
        refine Eq.trans ?_ (q.trans ?_)
        · congr 3
          funext i
          simp
        · congr 3
          funext i
          unfold aimS
          have t0 : tN (gTG P) k = 0 := c0
          have t1 : tM (gTG P) k = 1 := c1
          simp [t0, t1, c0]
          rfl
      · show f1_aimAtGoal_b45_body _ _ _ _ _ _ _ _ _ = _
        generalize LP8 f1_aimAtGoal_b45_body _ = K
        unfold f1_aimAtGoal_b45_body
        rw [decide_eq_false c1, bI_f] at *
        rw [if_pos (show nI (kn P k) = 0 by rw [c0]; rfl), if_pos rfl, e80]
        congr 3
        funext i
        unfold aimS
        have t0 : tN (gTG P) k = 0 := c0
        have t1 : ¬ tM (gTG P) k = 1 := c1
        simp [t0, t1, c0]
    · show f1_aimAtGoal_b45_body _ _ _ _ _ _ _ _ _ = _
      generalize LP8 f1_aimAtGoal_b45_body _ = K
      unfold f1_aimAtGoal_b45_body
      rw [if_neg (by rw [c_eq0 (by omega)]; exact c0), e80]
      congr 3
      funext i
      unfold aimS
      have t0 : ¬ tN (gTG P) k = 0 := c0
      simp only [t0, decide_false, Bool.false_and, Bool.false_or]
      rfl
  have e22 : f1_aimAtGoal_b22 (tw M a (ES S g) (ER T R)) a a1 (nI k) (nI (kn P k)) (bI (decide (km P k = 1))) = some (tw M a (ES (fun i => S i || aimS (pG P) (gTG P) k i) g) (ER (fun i => T i || (decide (tN (gTG P) k = 0) && i == tS (gTG P) k)) R)) := by
    unfold f1_aimAtGoal_b22
    rw [(tw_p hP).o wt, lit_0, S7_ofGoal wt (tw_p hP) hk (by omega) hp, cI_some]
    show (if nI (kn P k) = nI 0 then aO _ a 1 (cV (f1_aimAtNothing (tw M a (ES S g) (ER T R)) a (nI (kp P k))) fun M39 => f1_aimAtGoal_b42 M39 a a1 (nI k) (nI (kn P k)) (bI (decide (km P k = 1))) (nI (kp P k))) else f1_aimAtGoal_b42 _ a a1 (nI k) (nI (kn P k)) (bI (decide (km P k = 1))) (nI (kp P k))) = _
    by_cases c0 : kn P k = 0
    · rw [if_pos (by rw [c0]), tw_o w h, tw_aim w h (by omega), cV_some, ER_low (by omega), e42]
      congr 3
      funext i
      have t0 : tN (gTG P) k = 0 := c0
      simp only [t0, decide_true, Bool.true_and]
      rfl
    · rw [if_neg (by rw [nI_eq (by omega) (by omega)]; exact c0), e42]
      congr 3
      funext i
      have t0 : ¬ tN (gTG P) k = 0 := c0
      simp only [t0, decide_false, Bool.false_and, Bool.or_false]
  unfold f1_aimAtGoal
  rw [(tw_p hP).o wt, lit_1, S7_ofGoal wt (tw_p hP) hk (by omega) hp, cI_some, (tw_p hP).o wt, lit_2, S7_ofGoal wt (tw_p hP) hk (by omega) hp, cI_some]
  show (if nI (km P k) = nI 1 then f1_aimAtGoal_b22 _ a a1 (nI k) (nI (kn P k)) (nI 1) else f1_aimAtGoal_b22 _ a a1 (nI k) (nI (kn P k)) 0) = _
  rw [← e22]
  have m1 := hK.2.2.1
  by_cases c : km P k = 1
  · rw [if_pos (by rw [c]), decide_eq_true c]
    rfl
  · rw [if_neg (by rw [nI_eq (by omega) (by omega)]; exact c), decide_eq_false c]
    rfl
theorem L1_sfg (w : Wl M) (h : CoA a) (hp : WP P) (hP : PgC M a1 P) {g R : Nat → Nat} {S T : Nat → Bool} : ∀ (d j : Nat), j + d = pK P → ∀ f, d < f →
    LP4 f1_startForGoals_b10_body f (tw M a (ES (fun i => S i || (List.range j).any (fun k => aimS (pG P) (gTG P) k i)) g) (ER (fun i => T i || (List.range j).any (fun k => decide (tN (gTG P) k = 0) && i == tS (gTG P) k)) R)) a a1 (nI j) =
      some (tw M a (ES (fun i => S i || (List.range (pK P)).any (fun k => aimS (pG P) (gTG P) k i)) g) (ER (fun i => T i || (List.range (pK P)).any (fun k => decide (tN (gTG P) k = 0) && i == tS (gTG P) k)) R))
  | 0, j, hj, f + 1, _ => by
    have h4 := hp.2.2.2.1
    have e : j = pK P := by omega
    rw [e]
    show f1_startForGoals_b10_body _ _ _ _ _ = _
    generalize LP4 f1_startForGoals_b10_body f = K
    unfold f1_startForGoals_b10_body
    have wt : ∀ {E R}, Wl (tw M a E R) := w
    rw [(tw_p hP).o wt, (tw_p hP).k, if_pos (nI_le (Nat.le_refl _) (by omega))]
  | d + 1, j, hj, f + 1, hf => by
    have h4 := hp.2.2.2.1
    have ih := L1_sfg w h hp hP (g := g) (R := R) (S := S) (T := T) d (j + 1) (by omega) f (by omega)
    show f1_startForGoals_b10_body _ _ _ _ _ = _
    generalize LP4 f1_startForGoals_b10_body f = K at ih ⊢
    unfold f1_startForGoals_b10_body
    have wt : ∀ {E R}, Wl (tw M a E R) := w
    rw [(tw_p hP).o wt, (tw_p hP).k, if_neg (nI_ge (by omega) (by omega)), tw_o w h, S1_aimGoal w h hp hP (by omega), cV_some, nI_1, ← ih]
    congr 3
    · funext i
      rw [any_succ, ← Bool.or_assoc]
    · funext i
      rw [any_succ, ← Bool.or_assoc]
theorem S1_sfg (w : Wl M) (h : CoA a) (hp : WP P) (hP : PgC M a1 P) (E0 R0 : Nat → Nat) : f1_startForGoals (tw M a E0 R0) a a1 = some (tw M a (ES (allS (pG P) (gTG P)) E0) (ER (endS (gTG P)) R0)) := by
  have wt : ∀ {E R}, Wl (tw M a E R) := w
  unfold f1_startForGoals
  rw [(tw_p hP).o wt, tw_o w h, (tw_p hP).g, S1_start w h hp.2.1, cV_some]
  refine Eq.trans ?_ (L1_sfg w h hp hP (g := E0) (R := R0) (S := fun i => (List.range (pG P)).any (fun g => i == ix 15 5 g 5)) (T := fun i => i == 5 || i == 6) (pK P) 0 (by omega) FU (FU_big (by have := hp.2.2.2.1; omega)))
  show LP4 f1_startForGoals_b10_body FU _ _ _ _ = _
  congr 3
  · funext i
    simp
  · funext i
    simp
end STA
