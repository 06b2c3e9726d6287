/-! WHAT A STACK COSTS, AT THE REFERENCE -/
theorem gtM_told {M : MM} {T : TG} (hT : TgM M T) {k n g : Nat} (hk : k < tK T) (hn : n ≤ 3) (hg : g < 2 ^ 31) : gtM M (5 + 4 * k + n) g = if n = tN T k then (if tM T k = 1 then nI (5 + 4 * k + n) else -1) else if tN T k ≤ n then -1 else if tG T k n = g then nI (5 + 4 * k + n + 1) else -1 := by
  obtain ⟨-, t2, -, t4⟩ := hT
  obtain ⟨-, -, k3, k4, k5, k6, k7⟩ := t4 k hk
  unfold gtM
  rw [show (5 + 4 * k + n - 5) % 4 = n by omega, show (5 + 4 * k + n - 5) / 4 = k by omega, k3, k5]
  simp only [c_eq (show n < 2 ^ 31 by omega) (show tN T k < 2 ^ 31 by omega), c_le (show tN T k < 2 ^ 31 by omega) (show n < 2 ^ 31 by omega), c_eq1 (show tM T k < 2 ^ 31 by omega)]
  by_cases c : n = tN T k
  · rw [if_pos c, if_pos c]
  · rw [if_neg c, if_neg c]
    by_cases c2 : tN T k ≤ n
    · rw [if_pos c2, if_pos c2]
    · rw [if_neg c2, if_neg c2]
      obtain ⟨q1, q2⟩ := k7 n (by omega)
      rw [q1]
      simp only [c_eq (show tG T k n < 2 ^ 31 by omega) hg]
theorem okD_of {M : MM} {T : TG} (hT : TgM M T) {D : Nat → Nat → Nat → Bool} (hD : ∀ y g x, g < 2 ^ 31 → D y g x = DM M y g x) : ∀ k n g y, g < 2 ^ 31 → k < tK T → n ≤ 3 → y < 21 → (D (5 + 4 * k + n) g y = true ↔ (n = tN T k ∧ tM T k = 1 ∧ y = 5 + 4 * k + n) ∨ (n < tN T k ∧ tG T k n = g ∧ y = 5 + 4 * k + n + 1)) := by
  intro k n g y hg hk hn hy
  have k4 := hT.2.1
  rw [hD _ _ _ hg]
  unfold DM
  rw [decide_eq_true_iff, gtM_told hT hk hn hg]
  by_cases c : n = tN T k
  · rw [if_pos c]
    by_cases c1 : tM T k = 1
    · rw [if_pos c1, nI_eq (by omega) (by omega)]
      omega
    · rw [if_neg c1]
      exact ⟨fun q => absurd q.symm (nI_neM (by omega)), fun q => by omega⟩
  · rw [if_neg c]
    by_cases c2 : tN T k ≤ n
    · rw [if_pos c2]
      exact ⟨fun q => absurd q.symm (nI_neM (by omega)), fun q => by omega⟩
    · rw [if_neg c2]
      by_cases c3 : tG T k n = g
      · rw [if_pos c3, nI_eq (by omega) (by omega)]
        omega
      · rw [if_neg c3]
        exact ⟨fun q => absurd q.symm (nI_neM (by omega)), fun q => by omega⟩
/-- the same with no bound on the sign -/
def frmD (T : TG) (y g x : Nat) : Bool := decide (((y - 5) % 4 = tN T ((y - 5) / 4) ∧ tM T ((y - 5) / 4) = 1 ∧ x = y) ∨ ((y - 5) % 4 < tN T ((y - 5) / 4) ∧ tG T ((y - 5) / 4) ((y - 5) % 4) = g ∧ x = y + 1))
def DX (M : MM) (T : TG) (y g x : Nat) : Bool := if g < 6 then DM M y g x else frmD T y g x
theorem DX_6 {M : MM} {T : TG} {y g x : Nat} (hg : g < 6) : DX M T y g x = DM M y g x := if_pos hg
theorem okD_X {M : MM} {T : TG} (hT : TgM M T) : okD T (DX M T) := by
  intro k n g y hk hn hy
  unfold DX
  by_cases c : g < 6
  · rw [if_pos c]
    exact okD_of hT (D := DM M) (fun _ _ _ _ => rfl) k n g y (by omega) hk hn hy
  · rw [if_neg c]
    unfold frmD
    rw [decide_eq_true_iff, show (5 + 4 * k + n - 5) % 4 = n by omega, show (5 + 4 * k + n - 5) / 4 = k by omega]
theorem onw_D {n : Nat} {D D' : Nat → Nat → Nat → Bool} {N : Nat → Nat} {y g x : Nat} (h : 5 ≤ y → D y g x = D' y g x) : onw n D N y g x = onw n D' N y g x := by
  unfold onw
  by_cases c : y < 5
  · rw [if_pos c, if_pos c]
  · rw [if_neg c, if_neg c, h (by omega)]
theorem StepC_D {n : Nat} {D D' : Nat → Nat → Nat → Bool} {P : PG} {o : Nat} {N E : Nat → Nat} (hp : WP P) (h : ∀ y g x, 5 ≤ y → y < n → g < 6 → x < n → D y g x = D' y g x) (k : StepC n D P o N E) : StepC n D' P o N E := by
  intro r hr
  refine ⟨(k r hr).1, (k r hr).2.1, fun h2 x hx y hy => ?_⟩
  rw [← onw_D (fun q => h y _ x q hy (hp.b6 (rin_lt hr) (by omega)) hx)]
  exact (k r hr).2.2 h2 x hx y hy
theorem GC_D {n : Nat} {I : Nat → Bool} {D D' : Nat → Nat → Nat → Bool} {P : PG} {o : Nat} {L : Nat → Nat} (hp : WP P) (h : ∀ y g x, 5 ≤ y → y < n → g < 6 → x < n → D y g x = D' y g x) (k : GC n I D P o L) : GC n I D' P o L :=
  ⟨⟨k.1.1, k.1.2.1, StepC_D hp h k.1.2.2⟩, fun N hN => k.2 N ⟨hN.1, hN.2.1, StepC_D hp (fun y g x a b c d => (h y g x a b c d).symm) hN.2.2⟩⟩
theorem okT_of {M : MM} {T : TG} (hT : TgM M T) {sg : Nat} (hsg : sg ≤ 6) (hs : ∀ k, k < tK T → ∀ i, i < tN T k → tG T k i < sg) : okT sg T := by
  obtain ⟨-, t2, -, t4⟩ := hT
  refine ⟨hsg, t2, fun k hk => ?_⟩
  obtain ⟨-, k2, -, k4, -, k6, -⟩ := t4 k hk
  exact ⟨k2, k4, k6, hs k hk⟩
theorem mnf_one {f : Nat → Nat} {n t : Nat} (ht : t < n) (hf : f t ≤ FARN) (h : ∀ y, y < n → y ≠ t → FARN ≤ f y) : mnf f n = f t := by
  refine Nat.le_antisymm (mnf_le f n t ht) (mnf_ge n hf (fun i hi => ?_))
  by_cases c : i = t
  · rw [c]
    exact Nat.le_refl _
  · exact Nat.le_trans hf (h i hi c)
theorem mnf_all {f : Nat → Nat} {n : Nat} (h : ∀ y, y < n → FARN ≤ f y) : mnf f n = FARN := Nat.le_antisymm (mnf_far f n) (mnf_ge n (Nat.le_refl _) h)
section ABV
variable {M : MM} {P : PG} {o oa : Nat} {T : TG}
theorem LM_isEnd (w : Wl M) (hT : TgM M T) {x : Nat} (hx : x < 5) : ∀ (d j : Nat), j + d = tK T → ∀ f, d < f → (∀ k, k < j → ¬ (tS T k = x ∧ tN T k = 0)) →
    LP4 f12_isEnd_b41_body f M 86 (nI x) (nI j) = some (bI ((List.range (tK T)).any (fun k => decide (tS T k = x) && decide (tN T k = 0))), M)
  | 0, j, hj, f + 1, _, hn => by
    have t2 := hT.2.1
    have e : j = tK T := by omega
    subst e
    show f12_isEnd_b41_body _ _ _ _ _ = _
    generalize LP4 f12_isEnd_b41_body f = K
    unfold f12_isEnd_b41_body
    rw [aO_86 w, hT.1, if_pos (nI_le (Nat.le_refl _) (by omega))]
    have : ((List.range (tK T)).any (fun k => decide (tS T k = x) && decide (tN T k = 0))) = false := by
      rw [List.any_eq_false]
      intro k hk
      have := hn k (List.mem_range.mp hk)
      simp
      exact fun q z => this ⟨q, z⟩
    rw [this]
    rfl
  | d + 1, j, hj, f + 1, hf, hn => by
    have t2 := hT.2.1
    have ih := LM_isEnd w hT hx d (j + 1) (by omega) f (by omega)
    obtain ⟨k1, k2, k3, k4, -, -, -⟩ := hT.2.2.2 j (by omega)
    show f12_isEnd_b41_body _ _ _ _ _ = _
    generalize LP4 f12_isEnd_b41_body f = K at ih ⊢
    unfold f12_isEnd_b41_body f12_isEnd_b70
    rw [aO_86 w, hT.1, if_neg (nI_ge (by omega) (by omega)), aO_86 w, r_86_24 w, aA_95 w (by omega), nI_clamp (by omega), k1, aO_86 w, r_86_25 w, aA_96 w (by omega), k3, nI_1]
    simp only [c_eq (show tS T j < 2 ^ 31 by omega) (show x < 2 ^ 31 by omega), c_eq0 (show tN T j < 2 ^ 31 by omega)]
    by_cases c : tS T j = x ∧ tN T j = 0
    · rw [if_pos c.1, if_pos c.2]
      have : ((List.range (tK T)).any (fun k => decide (tS T k = x) && decide (tN T k = 0))) = true := by
        rw [List.any_eq_true]
        exact ⟨j, List.mem_range.mpr (by omega), by rw [decide_eq_true c.1, decide_eq_true c.2]; rfl⟩
      rw [this]
      rfl
    · have q := ih (fun k hk => by
        by_cases e : k = j
        · rw [e]
          exact c
        · exact hn k (by omega))
      by_cases c1 : tS T j = x
      · rw [if_pos c1, if_neg (fun z => c ⟨c1, z⟩)]
        exact q
      · rw [if_neg c1]
        exact q
theorem SM_isEnd (w : Wl M) (hT : TgM M T) {x : Nat} (hx : x < 21) : f12_isEnd M 86 (nI x) = some (bI (isE T x), M) := by
  have t2 := hT.2.1
  unfold f12_isEnd isE
  rw [lit_5, lit_4]
  by_cases c : x < 5
  · rw [if_pos (by rw [c_lt (by omega) (by omega)]; exact c), if_pos c]
    exact LM_isEnd w hT c (tK T) 0 (by omega) FU (FU_big (by omega)) (fun k hk => absurd hk (Nat.not_lt_zero k))
  · rw [if_neg (by rw [c_lt (by omega) (by omega)]; exact c), if_neg c, nI_subN (by omega), gd_e (by decide), nI_div (by omega) (by omega) (by omega), bW_e, aO_86 w, hT.1, gd_e (by decide), nI_mulN, nI_subN (Nat.div_mul_le_self _ _), show x - 5 - (x - 5) / 4 * 4 = (x - 5) % 4 by omega]
    by_cases c1 : (x - 5) / 4 < tK T
    · obtain ⟨-, -, k3, k4, -, -, -⟩ := hT.2.2.2 _ c1
      rw [if_neg (nI_ge c1 (by omega)), aO_86 w, r_86_25 w, aA_96 w (by omega), nI_clamp (by omega), k3, decide_eq_true c1, Bool.true_and]
      simp only [c_eq (show (x - 5) % 4 < 2 ^ 31 by omega) (show tN T ((x - 5) / 4) < 2 ^ 31 by omega)]
      by_cases c2 : (x - 5) % 4 = tN T ((x - 5) / 4)
      · rw [if_pos c2, decide_eq_true c2]
        rfl
      · rw [if_neg c2, decide_eq_false c2]
        rfl
    · rw [if_pos (nI_le (by omega) (by omega)), decide_eq_false c1]
      rfl
theorem ab21 {h x : Nat} : (21 : Int32) * nI h + nI x = nI (21 * h + x) := by rw [lit_21, nI_mulN, nI_add]
theorem LM_above62 (w : Wl M) (ha : OfA oa) {F : Nat → Nat} {gg : Nat → Int64} (hF : mJ M oa = mjR F gg) (bF : Bd 630 F) {V : Nat → Nat} {x g h : Nat} (hV : ∀ y, y < 21 → mJ M 101 (21 * h + y) = mjv (V y)) (bV : ∀ y, y < 21 → V y ≤ FARN) (hx : x < 5) (hg : g < 6) (hh : h < 200) :
    ∀ (d j : Nat), j + d = 21 → ∀ f, d < f → LP8 f12_aboveBy_b62_body f M 86 oa (nI x) (nI g) (nI h) (mjv (mnf (fun y => cp (F (ix 21 x g y)) (V y)) j)) (nI j) = some (mjv (mnf (fun y => cp (F (ix 21 x g y)) (V y)) 21), M)
  | 0, j, hj, f + 1, _ => by
    have e : j = 21 := by omega
    subst e
    show f12_aboveBy_b62_body _ _ _ _ _ _ _ _ _ = _
    generalize LP8 f12_aboveBy_b62_body f = K
    unfold f12_aboveBy_b62_body
    rw [lit_21, if_pos (nI_le (Nat.le_refl _) (by omega))]
  | d + 1, j, hj, f + 1, hf => by
    have ih := LM_above62 w ha hF bF hV bV hx hg hh d (j + 1) (by omega) f (by omega)
    have hj21 : j < 21 := by omega
    have b1 := bF _ (ix21_lt hx hg hj21)
    have b2 := bV j hj21
    have b3 := mnf_far (fun y => cp (F (ix 21 x g y)) (V y)) j
    show f12_aboveBy_b62_body _ _ _ _ _ _ _ _ _ = _
    generalize LP8 f12_aboveBy_b62_body f = K at ih ⊢
    unfold f12_aboveBy_b62_body
    rw [ab21, lit_21, if_neg (nI_ge hj21 (by omega)), aO_86 w, SM_costOf w ha hx hg hj21, cJ_some, aO_86 w, r_86_32 w, aA_101 w (by omega), nI_clamp (by omega), hV j hj21, hF, show mjR F gg (ix 21 x g j) = mjv (F (ix 21 x g j)) from if_pos (ix21_lt hx hg hj21), SM_sum b1 b2, cJ_some, SM_lesser b3 (cp_far _ _), cJ_some, nI_1]
    exact ih
theorem gtM_cases (hT : TgM M T) {x g : Nat} (hx : 5 ≤ x) (hx2 : x < 21) (hk : (x - 5) / 4 < tK T) (hg : g < 6) : (gtM M x g = -1 ∧ ∀ y, y < 21 → DM M x g y = false) ∨ ∃ t, t < 21 ∧ gtM M x g = nI t ∧ ∀ y, y < 21 → (DM M x g y = true ↔ y = t) := by
  have e : x = 5 + 4 * ((x - 5) / 4) + (x - 5) % 4 := by omega
  have t2 := hT.2.1
  obtain ⟨-, -, k3, k4, -, -, -⟩ := hT.2.2.2 _ hk
  have h := gtM_told hT hk (show (x - 5) % 4 ≤ 3 by omega) (show g < 2 ^ 31 by omega)
  rw [← e] at h
  have no : gtM M x g = -1 → ∀ y, y < 21 → DM M x g y = false := fun q y hy => by
    unfold DM
    rw [q]
    exact decide_eq_false (nI_neM' (by omega))
  have yes : ∀ t, t < 21 → gtM M x g = nI t → ∀ y, y < 21 → (DM M x g y = true ↔ y = t) := fun t ht q y hy => by
    unfold DM
    rw [q, decide_eq_true_iff, nI_eq (by omega) (by omega)]
    omega
  by_cases c : (x - 5) % 4 = tN T ((x - 5) / 4)
  · rw [if_pos c] at h
    by_cases c1 : tM T ((x - 5) / 4) = 1
    · rw [if_pos c1] at h
      exact .inr ⟨x, hx2, h, yes x hx2 h⟩
    · rw [if_neg c1] at h
      exact .inl ⟨h, no h⟩
  · rw [if_neg c] at h
    by_cases c2 : tN T ((x - 5) / 4) ≤ (x - 5) % 4
    · rw [if_pos c2] at h
      exact .inl ⟨h, no h⟩
    · rw [if_neg c2] at h
      by_cases c3 : tG T ((x - 5) / 4) ((x - 5) % 4) = g
      · rw [if_pos c3] at h
        have : x + 1 < 21 := by omega
        exact .inr ⟨x + 1, this, h, yes _ this h⟩
      · rw [if_neg c3] at h
        exact .inl ⟨h, no h⟩
theorem SM_aboveBy (w : Wl M) (ha : OfA oa) (hT : TgM M T) {F : Nat → Nat} {gg : Nat → Int64} (hF : mJ M oa = mjR F gg) (bF : Bd 630 F) {V : Nat → Nat} {x g h : Nat} (hV : ∀ y, y < 21 → mJ M 101 (21 * h + y) = mjv (V y)) (bV : ∀ y, y < 21 → V y ≤ FARN) (hx : x < 21) (hg : g < 6) (hh : h < 200) :
    f12_aboveBy M 86 oa (nI x) (nI g) (nI h) = some (mjv (mnf (fun y => cp (e21 T (DX M T) F x g y) (V y)) 21), M) := by
  have t2 := hT.2.1
  unfold f12_aboveBy
  rw [lit_5, lit_4]
  by_cases c : x < 5
  · rw [if_pos (by rw [c_lt (by omega) (by omega)]; exact c)]
    have q := LM_above62 w ha hF bF hV bV c hg hh 21 0 (by omega) FU (FU_big (by omega))
    rw [show mnf (fun y => cp (F (ix 21 x g y)) (V y)) 0 = FARN from rfl, mjv_far] at q
    rw [show mnf (fun y => cp (e21 T (DX M T) F x g y) (V y)) 21 = mnf (fun y => cp (F (ix 21 x g y)) (V y)) 21 from mnf_congr 21 (fun y hy => by
      unfold e21 onw
      rw [if_neg (by omega), if_pos c])]
    exact q
  · rw [if_neg (by rw [c_lt (by omega) (by omega)]; exact c), gd_e (by decide), aO_86 w, nI_subN (by omega), nI_div (by omega) (by omega) (by omega), hT.1]
    unfold f12_aboveBy_b27
    by_cases c1 : (x - 5) / 4 < tK T
    · have ee : ∀ y, e21 T (DX M T) F x g y = if DM M x g y then 0 else FARN := fun y => by
        unfold e21 onw
        rw [if_neg (fun q => by omega), if_neg c, DX_6 hg]
      rw [if_neg (nI_ge c1 (by omega)), aO_86 w, SM_goesTo w hT.2.2.1 (by omega) hx, cI_some]
      rcases gtM_cases hT (by omega) hx c1 hg with ⟨q1, q2⟩ | ⟨t, q1, q2, q3⟩
      · rw [q1, if_neg (by decide), mnf_all (f := fun y => cp (e21 T (DX M T) F x g y) (V y)) (fun y hy => by
          show FARN ≤ cp (e21 T (DX M T) F x g y) (V y)
          rw [ee, q2 y hy]
          exact Nat.le_of_eq (cp_F' _).symm), mjv_far]
      · rw [q2, if_pos (nI_pos' (by omega)), aO_86 w, r_86_32 w, ab21, aA_101 w (by omega), nI_clamp (by omega), hV t q1, mnf_one (f := fun y => cp (e21 T (DX M T) F x g y) (V y)) q1 (cp_far _ _) (fun y hy hne => by
          have : DM M x g y = false := by
            rw [← Bool.not_eq_true, q3 y hy]
            exact hne
          show FARN ≤ cp (e21 T (DX M T) F x g y) (V y)
          rw [ee, this]
          exact Nat.le_of_eq (cp_F' _).symm), ee, (q3 t q1).mpr rfl, if_pos rfl, cp_0 (bV t q1)]
    · rw [if_pos (nI_le (by omega) (by omega)), if_neg (by decide), mnf_all (f := fun y => cp (e21 T (DX M T) F x g y) (V y)) (fun y hy => by
        show FARN ≤ cp (e21 T (DX M T) F x g y) (V y)
        unfold e21
        rw [if_pos ⟨by omega, by omega⟩]
        exact Nat.le_of_eq (cp_F' _).symm), mjv_far]
def layQ (Ab : Nat → Int64) (h j : Nat) (v : Nat → Nat) : Nat → Int64 := fun i => if 21 * h ≤ i ∧ i < 21 * h + j then mjv (v (i - 21 * h)) else Ab i
theorem layQ_0 {Ab : Nat → Int64} {h : Nat} {v : Nat → Nat} : layQ Ab h 0 v = Ab := by
  funext i
  unfold layQ
  rw [if_neg (by omega)]
theorem layQ_s {Ab : Nat → Int64} {h j : Nat} {v : Nat → Nat} : upx (layQ Ab h j v) (21 * h + j) (mjv (v j)) = layQ Ab h (j + 1) v := by
  funext i
  rw [upx_e]
  unfold layQ
  by_cases c : i = 21 * h + j
  · subst c
    rw [if_pos rfl, if_pos (by omega), show 21 * h + j - 21 * h = j by omega]
  · rw [if_neg c]
    by_cases c2 : 21 * h ≤ i ∧ i < 21 * h + j
    · rw [if_pos c2, if_pos (by omega)]
    · rw [if_neg c2, if_neg (by omega)]
def RwM (e : Nat → Nat → Nat → Nat) (z s : Nat → Nat) (Ab : Nat → Int64) (H : Nat) : Prop := ∀ h x, h < H → x < 21 → Ab (21 * h + x) = mjv (val 21 e z s h x)
theorem RwM.lay {e : Nat → Nat → Nat → Nat} {z s : Nat → Nat} {Ab : Nat → Int64} {h : Nat} (k : RwM e z s Ab h) : RwM e z s (layQ Ab h 21 (val 21 e z s h)) (h + 1) := by
  intro i x hi hx
  unfold layQ
  by_cases c : i = h
  · subst c
    rw [if_pos (by omega), show 21 * i + x - 21 * i = x by omega]
  · rw [if_neg (by omega)]
    exact k i x (by omega) hx
theorem RwM.less {e : Nat → Nat → Nat → Nat} {z s : Nat → Nat} {Ab : Nat → Int64} {h j : Nat} (k : RwM e z s Ab h) (q : j ≤ h) : RwM e z s Ab j := fun i x hi hx => k i x (by omega) hx
theorem RwM.cg {e : Nat → Nat → Nat → Nat} {z s s' : Nat → Nat} {Ab : Nat → Int64} {h : Nat} (k : RwM e z s Ab (h + 1)) (q : ∀ i, i < h → s i = s' i) : RwM e z s' Ab (h + 1) := fun i x hi hx => by
  rw [k i x hi hx]
  congr 1
  exact val_congr i (fun j hj => q j (by omega)) (fun _ _ _ _ _ _ => rfl) (fun _ _ => rfl) x hx
theorem z21_far (T : TG) (x : Nat) : z21 T x ≤ FARN := by
  unfold z21
  split
  · exact Nat.zero_le _
  · exact Nat.le_refl _
theorem TgM_J {b : Nat} {r : Nat → Int64} (hT : TgM M T) : TgM (uJ M b r) T := hT
theorem LM_layAbove13 (w : Wl M) (ha : OfA oa) (hT : TgM M T) {F : Nat → Nat} {gg : Nat → Int64} (hF : mJ M oa = mjR F gg) (bF : Bd 630 F) {s : Nat → Nat} {ra n0 n h : Nat} (hra : mK M ra = (0, n0)) (hs : ∀ i, i < n → mI M ra i = nI (s i) ∧ s i < 6) (hn : n ≤ n0) (hn2 : n < 200) (hh : h ≤ n) {Ab : Nat → Int64} (hA : RwM (e21 T (DX M T) F) (z21 T) s Ab h) {K3 : MM → Nat → Nat → Nat → Int32 → Int32 → Option MM} :
    ∀ (d j : Nat), j + d = 21 → ∀ f, d < f → LP7 (f12_layAbove_b13_body K3) f (uJ M 101 (layQ Ab h j (val 21 (e21 T (DX M T) F) (z21 T) s h))) 86 oa ra (nI n) (nI h) (nI j) = K3 (uJ M 101 (layQ Ab h 21 (val 21 (e21 T (DX M T) F) (z21 T) s h))) 86 oa ra (nI n) (nI (h + 1))
  | 0, j, hj, f + 1, _ => by
    have e : j = 21 := by omega
    subst e
    show f12_layAbove_b13_body _ _ _ _ _ _ _ _ _ = _
    generalize LP7 (f12_layAbove_b13_body K3) f = K
    unfold f12_layAbove_b13_body
    rw [lit_21, if_pos (nI_le (Nat.le_refl _) (by omega)), nI_1]
  | d + 1, j, hj, f + 1, hf => by
    have ih := LM_layAbove13 w ha hT hF bF hra hs hn hn2 hh hA (K3 := K3) d (j + 1) (by omega) f (by omega)
    have hj21 : j < 21 := by omega
    have w' : ∀ {r}, Wl (uJ M 101 r) := w
    have oa1 : oa ≠ 101 := by rcases ha with q | q <;> omega
    rw [← ih]
    show f12_layAbove_b13_body _ _ _ _ _ _ _ _ _ = _
    generalize LP7 (f12_layAbove_b13_body K3) f = K
    have h61 : ∀ {v : Nat}, v = val 21 (e21 T (DX M T) F) (z21 T) s h j → f12_layAbove_b61 K (uJ M 101 (layQ Ab h j (val 21 (e21 T (DX M T) F) (z21 T) s h))) 86 oa ra (nI n) (nI h) (nI j) (mjv v) = K (uJ M 101 (layQ Ab h (j + 1) (val 21 (e21 T (DX M T) F) (z21 T) s h))) 86 oa ra (nI n) (nI h) (nI (j + 1)) := by
      intro v hv
      subst hv
      unfold f12_layAbove_b61
      rw [aO_86 w', r_86_32 w', ab21, aA_101 w' (by omega), nI_clamp (by omega), bM_e, sJ_e, mJ_uJ, if_pos rfl, uJ_uJ, nI_1, layQ_s]
    unfold f12_layAbove_b13_body
    rw [lit_21, if_neg (nI_ge hj21 (by omega))]
    simp only [c_eq0 (show h < 2 ^ 31 by omega)]
    rcases h with _ | h
    · rw [if_pos rfl, aO_86 w', SM_isEnd w' (TgM_J hT) hj21, cI_some]
      simp only [bI_0]
      by_cases c : isE T j = true
      · rw [if_neg (by rw [c]; decide), show (0 : Int64) = mjv 0 from rfl]
        refine h61 ?_
        show _ = z21 T j
        unfold z21
        rw [if_pos c]
      · simp only [Bool.not_eq_true] at c
        rw [if_pos c, ← mjv_far]
        refine h61 ?_
        show _ = z21 T j
        unfold z21
        rw [c]
        rfl
    · obtain ⟨s1, s2⟩ := hs h (by omega)
      rw [if_neg (by omega), nI_sub1 (by omega), aA_e (by rw [mK_uJ, hra]) (by rw [mK_uJ, hra]; show h + 1 - 1 < n0; omega) (by omega), nI_clamp (by omega), show h + 1 - 1 = h by omega, aO_86 w', show mI (uJ M 101 (layQ Ab (h + 1) j (val 21 (e21 T (DX M T) F) (z21 T) s (h + 1)))) ra h = nI (s h) from s1]
      have q := SM_aboveBy (M := uJ M 101 (layQ Ab (h + 1) j (val 21 (e21 T (DX M T) F) (z21 T) s (h + 1)))) (x := j) (g := s h) (h := h) w' ha (TgM_J hT) (by rw [mJ_uJ, if_neg oa1]; exact hF) bF (V := val 21 (e21 T (DX M T) F) (z21 T) s h) (fun y hy => by
        rw [mJ_uJ, if_pos rfl]
        unfold layQ
        rw [if_neg (by omega)]
        exact hA h y (by omega) hy) (val_far (fun x _ => z21_far T x) h) hj21 s2 (by omega)
      rw [q, cJ_some]
      exact h61 rfl
theorem LM_layAbove3 (w : Wl M) (ha : OfA oa) (hT : TgM M T) {F : Nat → Nat} {gg : Nat → Int64} (hF : mJ M oa = mjR F gg) (bF : Bd 630 F) {s : Nat → Nat} {ra n0 n : Nat} (hra : mK M ra = (0, n0)) (hs : ∀ i, i < n → mI M ra i = nI (s i) ∧ s i < 6) (hn : n ≤ n0) (hn2 : n < 200) :
    ∀ (d h : Nat), h + d = n + 1 → ∀ f, d < f → ∀ Ab, RwM (e21 T (DX M T) F) (z21 T) s Ab h → ∃ Ab', LP6 f12_layAbove_b3_body f (uJ M 101 Ab) 86 oa ra (nI n) (nI h) = some (uJ M 101 Ab') ∧ RwM (e21 T (DX M T) F) (z21 T) s Ab' (n + 1)
  | 0, h, hj, f + 1, _, Ab, hA => by
    have e : h = n + 1 := by omega
    subst e
    refine ⟨Ab, ?_, hA⟩
    show f12_layAbove_b3_body _ _ _ _ _ _ _ = _
    generalize LP6 f12_layAbove_b3_body f = K
    unfold f12_layAbove_b3_body
    rw [if_pos (by rw [c_lt (by omega) (by omega)]; omega)]
  | d + 1, h, hj, f + 1, hf, Ab, hA => by
    obtain ⟨Ab', h1, h2⟩ := LM_layAbove3 w ha hT hF bF hra hs hn hn2 d (h + 1) (by omega) f (by omega) _ hA.lay
    refine ⟨Ab', ?_, h2⟩
    rw [← h1]
    show f12_layAbove_b3_body _ _ _ _ _ _ _ = _
    generalize LP6 f12_layAbove_b3_body f = K
    unfold f12_layAbove_b3_body f12_layAbove_b13
    rw [if_neg (by rw [c_lt (by omega) (by omega)]; omega)]
    have q := LM_layAbove13 w ha hT hF bF hra hs hn hn2 (show h ≤ n by omega) hA (K3 := K) 21 0 (by omega) FU (FU_big (by omega))
    rw [layQ_0] at q
    exact q
theorem SM_layAbove (w : Wl M) (ha : OfA oa) (hT : TgM M T) {F : Nat → Nat} {gg : Nat → Int64} (hF : mJ M oa = mjR F gg) (bF : Bd 630 F) {s : Nat → Nat} {ra n0 n fr : Nat} (hra : mK M ra = (0, n0)) (hs : ∀ i, i < n → mI M ra i = nI (s i) ∧ s i < 6) (hn : n ≤ n0) (hn2 : n < 200) (hfr : fr ≤ n + 1) (hA : RwM (e21 T (DX M T) F) (z21 T) s (mJ M 101) fr) : ∃ Ab', f12_layAbove M 86 oa ra (nI fr) (nI n) = some (uJ M 101 Ab') ∧ RwM (e21 T (DX M T) F) (z21 T) s Ab' (n + 1) := by
  have q := LM_layAbove3 w ha hT hF bF hra hs hn hn2 (n + 1 - fr) fr (by omega) FU (FU_big (by omega)) (mJ M 101) hA
  rw [uJ_self] at q
  exact q
theorem SM_costNow (w : Wl M) (ha : OfA oa) (hT : TgM M T) {F : Nat → Nat} {gg : Nat → Int64} (hF : mJ M oa = mjR F gg) (bF : Bd 630 F) {s : Nat → Nat} {p H : Nat} (hp : p < 5) (h20 : mI M 86 20 = nI p) (h21 : mI M 86 21 = nI H) (hH : H ≤ 40) (hs : ∀ i, i < H → mI M 92 i = nI (s i) ∧ s i < 6) : ∃ Ab', f12_costNow M 86 oa = some (mjv (val 21 (e21 T (DX M T) F) (z21 T) s H p), uJ M 101 Ab') ∧ RwM (e21 T (DX M T) F) (z21 T) s Ab' (H + 1) := by
  obtain ⟨Ab', h1, h2⟩ := SM_layAbove w ha hT hF bF (k_92 w) hs hH (by omega) (Nat.zero_le (H + 1)) (fr := 0) (fun h x hh => absurd hh (Nat.not_lt_zero h))
  refine ⟨Ab', ?_, h2⟩
  have w' : Wl (uJ M 101 Ab') := w
  unfold f12_costNow
  rw [aO_86 w, aO_86 w, aO_86 w, r_86_17 w, h21, lit_0, h1, cV_some, aO_86 w', aO_86 w', aO_86 w', r_86_32 w']
  show aA _ 101 1 (21 * mI M 86 21 + mI M 86 20) _ = _
  rw [h20, h21, ab21, aA_101 w' (by omega)]
  show some (mJ (uJ M 101 Ab') 101 (21 * mI M 86 21 + mI M 86 20).toNatClampNeg, _) = _
  rw [h20, h21, ab21, nI_clamp (by omega), mJ_uJ, if_pos rfl, h2 H p (by omega) (by omega)]
end ABV
