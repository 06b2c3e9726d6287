/-! MACHINES: what a number of a set tells, parts of alike ones, numbers in the order of being found -/
def GW (G : Nat) (w : List Nat) : Prop := ∀ g, g ∈ w → g < G
def acW (t : Nat → Nat → Nat) (gd : Nat → Bool) : List Nat → Nat → Bool
  | [], i => gd i
  | g :: w, i => acW t gd w (t i g)
theorem GW.tl {G g : Nat} {w : List Nat} (h : GW G (g :: w)) : g < G ∧ GW G w := ⟨h g (List.mem_cons_self ..), fun x hx => h x (List.mem_cons_of_mem _ hx)⟩
theorem GW.cons {G g : Nat} {w : List Nat} (h : g < G) (k : GW G w) : GW G (g :: w) := fun x hx => by
  rcases List.mem_cons.mp hx with e | e
  · rw [e]
    exact h
  · exact k x e
theorem GW.nil {G : Nat} : GW G [] := fun _ h => by cases h
/-- alike in parts K, and going on to alike ones -/
def Rk1 (G : Nat) (t : Nat → Nat → Nat) (K : Nat → Nat) (i j : Nat) : Prop := K i = K j ∧ ∀ g, g < G → K (t i g) = K (t j g)
/-- whether none before is of the same part -/
def fsB (K : Nat → Nat) (i : Nat) : Bool := !(List.range i).any fun j => K j == K i
theorem fsB_f {K : Nat → Nat} {i : Nat} (h : fsB K i = false) : ∃ j, j < i ∧ K j = K i := by
  unfold fsB at h
  rw [Bool.not_eq_false'] at h
  obtain ⟨j, hj, e⟩ := any_iff.mp h
  exact ⟨j, hj, by simpa using e⟩
theorem fsB_t {K : Nat → Nat} {i j : Nat} (h : fsB K i = true) (hj : j < i) : K j ≠ K i := fun e => by
  unfold fsB at h
  rw [any_in hj (by rw [e]; simp)] at h
  cases h
theorem fsB_of {K : Nat → Nat} {i : Nat} (h : ∀ j, j < i → K j ≠ K i) : fsB K i = true := by
  cases c : fsB K i
  · obtain ⟨j, hj, e⟩ := fsB_f c
    exact absurd e (h j hj)
  · rfl
theorem fs_ex (K : Nat → Nat) : ∀ i, ∃ j, j ≤ i ∧ K j = K i ∧ fsB K j = true := by
  intro i
  induction i using Nat.strongRecOn with
  | _ i ih =>
    cases c : fsB K i
    · obtain ⟨j, hj, e⟩ := fsB_f c
      obtain ⟨j', a, b, d⟩ := ih j hj
      exact ⟨j', by omega, b.trans e, d⟩
    · exact ⟨i, Nat.le_refl _, rfl, c⟩
section PARTS
variable {G n : Nat} {t : Nat → Nat → Nat} {gd : Nat → Bool}
/-- parts anew are finer; where they are as many, they are the same -/
theorem parts_stop {K K' : Nat → Nat} (h : ∀ i j, i < n → j < n → K' i = K' j → K i = K j) (hc : cntB (fsB K') n ≤ cntB (fsB K) n) : ∀ i j, i < n → j < n → K i = K j → K' i = K' j := by
  have sub : ∀ b, b < n → fsB K b = true → fsB K' b = true := fun b hb hf => fsB_of (fun j hj e => fsB_t hf hj (h j b (by omega) hb e))
  have same : ∀ b, b < n → fsB K' b = true → fsB K b = true := fun b hb hf => by
    rw [← Bool.not_eq_false]
    intro z
    have := cntB_lt n sub ⟨b, hb, hf, z⟩
    omega
  have main : ∀ i, i < n → ∀ j, j < n → K i = K j → fsB K j = true → K' i = K' j := fun i hi j hj e hf => by
    obtain ⟨j', a, b, c⟩ := fs_ex K' i
    have e2 := h j' i (by omega) hi b
    have f2 := same j' (by omega) c
    have : j' = j := by
      rcases Nat.lt_trichotomy j' j with q | q | q
      · exact absurd (e2.trans e) (fsB_t hf q)
      · exact q
      · exact absurd (e.symm.trans e2.symm) (fsB_t f2 q)
    rw [← this]
    exact b.symm
  intro i j hi hj e
  obtain ⟨j0, a, b, c⟩ := fs_ex K j
  rw [main i hi j0 (by omega) (e.trans b.symm) c, main j hj j0 (by omega) b.symm c]
def LEq (G : Nat) (t : Nat → Nat → Nat) (gd : Nat → Bool) (i j : Nat) : Prop := ∀ w, GW G w → acW t gd w i = acW t gd w j
/-- parts that nothing parts tell the same words -/
theorem parts_eq {K : Nat → Nat} (ht : ∀ i g, i < n → g < G → t i g < n) (hg : ∀ i j, i < n → j < n → K i = K j → gd i = gd j) (hs : ∀ i j, i < n → j < n → K i = K j → ∀ g, g < G → K (t i g) = K (t j g)) : ∀ w i j, GW G w → i < n → j < n → K i = K j → acW t gd w i = acW t gd w j
  | [], i, j, _, hi, hj, e => hg i j hi hj e
  | g :: w, i, j, hw, hi, hj, e => parts_eq ht hg hs w (t i g) (t j g) hw.tl.2 (ht i g hi hw.tl.1) (ht j g hj hw.tl.1) (hs i j hi hj e g hw.tl.1)
theorem LEq.step {i j g : Nat} (h : LEq G t gd i j) (hg : g < G) : LEq G t gd (t i g) (t j g) := fun w hw => h (g :: w) (GW.cons hg hw)
/-- parts that come from words stay so -/
theorem Rk1.of {K : Nat → Nat} (ht : ∀ i g, i < n → g < G → t i g < n) (hK : ∀ i j, i < n → j < n → LEq G t gd i j → K i = K j) {i j : Nat} (hi : i < n) (hj : j < n) (h : LEq G t gd i j) : Rk1 G t K i j := ⟨hK i j hi hj h, fun g hg => hK _ _ (ht i g hi hg) (ht j g hj hg) (h.step hg)⟩
end PARTS
/-! numbers in the order of being found -/
def mvN (v : Nat → Nat) : Nat → Nat
  | 0 => 0
  | c + 1 => max (mvN v c) (v c)
theorem mvN_ge (v : Nat → Nat) : ∀ c c0, c0 < c → v c0 ≤ mvN v c
  | 0, _, h => absurd h (Nat.not_lt_zero _)
  | c + 1, c0, h => by
    show v c0 ≤ max (mvN v c) (v c)
    by_cases e : c0 = c
    · rw [e]
      exact Nat.le_max_right _ _
    · exact Nat.le_trans (mvN_ge v c c0 (by omega)) (Nat.le_max_left _ _)
theorem mvN_mono (v : Nat → Nat) {a b : Nat} (h : a ≤ b) : mvN v a ≤ mvN v b := by
  induction h with
  | refl => exact Nat.le_refl _
  | step _ ih => exact Nat.le_trans ih (Nat.le_max_left _ _)
def vN (G : Nat) (nb : Nat → Nat → Nat) (c : Nat) : Nat := nb (c / G) (c % G)
/-- nodes numbered as they are found, told by their words -/
def NumOK (G n : Nat) (nb : Nat → Nat → Nat) (L : Nat → List Nat → Bool) (L0 : List Nat → Bool) : Prop :=
  (∀ w, GW G w → L 0 w = L0 w) ∧ (∀ k g, k < n → g < G → nb k g < n ∧ ∀ w, GW G w → L (nb k g) w = L k (g :: w)) ∧ (∀ a b, a < n → b < n → (∀ w, GW G w → L a w = L b w) → a = b) ∧ (∀ c, c < G * n → vN G nb c ≤ mvN (vN G nb) c + 1) ∧ (∀ k, k < n → k ≤ mvN (vN G nb) (G * k)) ∧ n = mvN (vN G nb) (G * n) + 1
theorem NumOK.mlt {G n : Nat} {nb : Nat → Nat → Nat} {L : Nat → List Nat → Bool} {L0 : List Nat → Bool} (h : NumOK G n nb L L0) {c : Nat} (hc : c ≤ G * n) : mvN (vN G nb) c < n := by
  have := mvN_mono (vN G nb) hc
  have := h.2.2.2.2.2
  omega
theorem NumOK.uniq1 {G n n' : Nat} (hG : 0 < G) {nb nb' : Nat → Nat → Nat} {L L' : Nat → List Nat → Bool} {L0 : List Nat → Bool} (h : NumOK G n nb L L0) (h' : NumOK G n' nb' L' L0) : ∀ c, c ≤ G * n → c ≤ G * n' → mvN (vN G nb) c = mvN (vN G nb') c ∧ (∀ j, j ≤ mvN (vN G nb) c → ∀ w, GW G w → L j w = L' j w) ∧ ∀ c0, c0 < c → vN G nb c0 = vN G nb' c0
  | 0, _, _ => ⟨rfl, fun j hj w hw => by
      have : j = 0 := Nat.le_zero.mp hj
      rw [this, h.1 w hw, h'.1 w hw], fun c0 h0 => absurd h0 (Nat.not_lt_zero _)⟩
  | c + 1, hc, hc' => by
    obtain ⟨i1, i2, i3⟩ := uniq1 hG h h' c (by omega) (by omega)
    have m1 := h.mlt (show c ≤ G * n by omega)
    have m2 := h'.mlt (show c ≤ G * n' by omega)
    have kn : c / G < n := Nat.div_lt_of_lt_mul (by omega)
    have kn' : c / G < n' := Nat.div_lt_of_lt_mul (by omega)
    have gG : c % G < G := Nat.mod_lt _ hG
    have km : c / G ≤ mvN (vN G nb) c := Nat.le_trans (h.2.2.2.2.1 _ kn) (mvN_mono _ (Nat.mul_div_le c G))
    obtain ⟨b1, b2⟩ := h.2.1 _ _ kn gG
    obtain ⟨b1', b2'⟩ := h'.2.1 _ _ kn' gG
    have ee : ∀ w, GW G w → L (nb (c / G) (c % G)) w = L' (nb' (c / G) (c % G)) w := fun w hw => by
      rw [b2 w hw, b2' w hw]
      exact i2 _ km _ (GW.cons gG hw)
    have f1 := h.2.2.2.1 c (by omega)
    have f2 := h'.2.2.2.1 c (by omega)
    have v1 : vN G nb c = nb (c / G) (c % G) := rfl
    have v2 : vN G nb' c = nb' (c / G) (c % G) := rfl
    have same : vN G nb c = vN G nb' c := by
      by_cases q : vN G nb c ≤ mvN (vN G nb) c
      · refine h'.2.2.1 _ _ (by omega) (by omega) (fun w hw => ?_)
        rw [← i2 _ q w hw]
        exact ee w hw
      · by_cases q' : vN G nb' c ≤ mvN (vN G nb') c
        · refine h.2.2.1 _ _ (by omega) (by omega) (fun w hw => ?_)
          have := i2 (vN G nb' c) (by omega) w hw
          rw [this]
          exact ee w hw
        · omega
    refine ⟨?_, fun j hj w hw => ?_, fun c0 h0 => ?_⟩
    · show max _ _ = max _ _
      rw [i1, same]
    · by_cases q : j ≤ mvN (vN G nb) c
      · exact i2 j q w hw
      · have hj' : j ≤ max (mvN (vN G nb) c) (vN G nb c) := hj
        have e : j = vN G nb c := by omega
        rw [e]
        refine (ee w hw).trans ?_
        show L' (vN G nb' c) w = _
        rw [same]
    · by_cases q : c0 = c
      · rw [q]
        exact same
      · exact i3 c0 (by omega)
theorem NumOK.le {G n n' : Nat} (hG : 0 < G) {nb nb' : Nat → Nat → Nat} {L L' : Nat → List Nat → Bool} {L0 : List Nat → Bool} (h : NumOK G n nb L L0) (h' : NumOK G n' nb' L' L0) : n' ≤ n := by
  refine Classical.byContradiction fun q => ?_
  have lt : G * n ≤ G * n' := Nat.mul_le_mul_left G (by omega)
  obtain ⟨a, -, -⟩ := h.uniq1 hG h' (G * n) (Nat.le_refl _) lt
  have := h'.2.2.2.2.1 n (by omega)
  have := h.2.2.2.2.2
  omega
theorem NumOK.uniq {G n n' : Nat} (hG : 0 < G) {nb nb' : Nat → Nat → Nat} {L L' : Nat → List Nat → Bool} {L0 : List Nat → Bool} (h : NumOK G n nb L L0) (h' : NumOK G n' nb' L' L0) : n = n' ∧ (∀ k g, k < n → g < G → nb k g = nb' k g) ∧ ∀ k, k < n → ∀ w, GW G w → L k w = L' k w := by
  have e : n = n' := Nat.le_antisymm (h'.le hG h) (h.le hG h')
  obtain ⟨a, b, c⟩ := h.uniq1 hG h' (G * n) (Nat.le_refl _) (by rw [e]; exact Nat.le_refl _)
  refine ⟨e, fun k g hk hg => ?_, fun k hk => b k (by have := h.2.2.2.2.2; omega)⟩
  have lt : G * k + g < G * n := by
    have : G * k + G ≤ G * n := by
      rw [← Nat.mul_succ]
      exact Nat.mul_le_mul_left G hk
    omega
  have := c (G * k + g) lt
  unfold vN at this
  rw [Nat.mul_add_div hG, Nat.div_eq_of_lt hg, Nat.mul_add_mod, Nat.mod_eq_of_lt hg, Nat.add_zero] at this
  exact this
