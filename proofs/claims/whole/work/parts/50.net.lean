/-! LEAST SUMS: nets of heads and nodes -/
def CAPN : Nat := 1000000000000000
def FARN : Nat := 1000000000000001
def cp (a b : Nat) : Nat := if FARN ≤ a ∨ FARN ≤ b then FARN else if CAPN < a + b then CAPN else a + b
theorem cp_far (a b : Nat) : cp a b ≤ FARN := by
  unfold cp CAPN FARN
  repeat' split
  all_goals omega
theorem cp_mono {a b a' b' : Nat} (h : a ≤ a') (k : b ≤ b') : cp a b ≤ cp a' b' := by
  unfold cp CAPN FARN
  repeat' split
  all_goals omega
theorem cp_comm (a b : Nat) : cp a b = cp b a := by
  unfold cp CAPN FARN
  repeat' split
  all_goals omega
theorem cp_assoc (a b c : Nat) : cp (cp a b) c = cp a (cp b c) := by
  unfold cp CAPN FARN
  repeat' split
  all_goals omega
theorem cp_geL {a b : Nat} (h : a ≤ FARN) : a ≤ cp a b := by
  unfold cp CAPN
  unfold FARN at *
  repeat' split
  all_goals omega
theorem cp_geR {a b : Nat} (h : b ≤ FARN) : b ≤ cp a b := by rw [cp_comm]; exact cp_geL h
theorem cp_0 {a : Nat} (h : a ≤ FARN) : cp 0 a = a := by
  unfold cp CAPN
  unfold FARN at *
  repeat' split
  all_goals omega
theorem cp_F (a : Nat) : cp a FARN = FARN := by simp [cp]
theorem cp_F' (a : Nat) : cp FARN a = FARN := by simp [cp]
def ix (n p g x : Nat) : Nat := (6 * p + g) * n + x
theorem ix_lt {n p g x : Nat} (hp : p < 5) (hg : g < 6) (hx : x < n) : ix n p g x < 30 * n := by
  unfold ix
  have h : (6 * p + g + 1) * n ≤ 30 * n := Nat.mul_le_mul_right n (by omega)
  rw [Nat.succ_mul] at h
  omega
theorem ix_inj {n p g x p' g' x' : Nat} (hg : g < 6) (hx : x < n) (hg' : g' < 6) (hx' : x' < n) (h : ix n p g x = ix n p' g' x') : p = p' ∧ g = g' ∧ x = x' := by
  unfold ix at h
  have e1 : ((6 * p + g) * n + x) / n = 6 * p + g := by rw [Nat.mul_comm, Nat.mul_add_div (by omega), Nat.div_eq_of_lt hx]; rfl
  have e2 : ((6 * p' + g') * n + x') / n = 6 * p' + g' := by rw [Nat.mul_comm, Nat.mul_add_div (by omega), Nat.div_eq_of_lt hx']; rfl
  rw [h, e2] at e1
  have e3 : p = p' := by omega
  have e4 : g = g' := by omega
  subst e3
  subst e4
  exact ⟨rfl, rfl, Nat.add_left_cancel h⟩
/-- what a node leads to by a sign -/
def onw (n : Nat) (D : Nat → Nat → Nat → Bool) (N : Nat → Nat) (y g x : Nat) : Nat := if y < 5 then N (ix n y g x) else if D y g x then 0 else FARN
/-- closed under the rules that are not out -/
def StepC (n : Nat) (D : Nat → Nat → Nat → Bool) (P : PG) (o : Nat) (N E : Nat → Nat) : Prop :=
  ∀ r, rin P o r = true →
    (rn P r = 0 → N (ix n (rp P r) (rg P r) (rt P r)) ≤ rc P r) ∧
    (rn P r = 1 → ∀ x, x < n → N (ix n (rp P r) (rg P r) x) ≤ cp (rc P r) (E (ix n (rt P r) (ra P r) x))) ∧
    (rn P r = 2 → ∀ x, x < n → ∀ y, y < n → N (ix n (rp P r) (rg P r) x) ≤ cp (rc P r) (cp (E (ix n (rt P r) (ra P r) y)) (onw n D E y (rb P r) x)))
def Clo (n : Nat) (I : Nat → Bool) (D : Nat → Nat → Nat → Bool) (P : PG) (o : Nat) (N : Nat → Nat) : Prop :=
  (∀ e, e < 30 * n → N e ≤ FARN) ∧ (∀ e, e < 30 * n → I e = true → N e = 0) ∧ StepC n D P o N N
/-- the greatest closed one: the least sums -/
def GC (n : Nat) (I : Nat → Bool) (D : Nat → Nat → Nat → Bool) (P : PG) (o : Nat) (L : Nat → Nat) : Prop :=
  Clo n I D P o L ∧ ∀ N, Clo n I D P o N → ∀ e, e < 30 * n → N e ≤ L e
theorem ex_max {Q : Nat → Prop} : ∀ (B : Nat), (∀ k, Q k → k ≤ B) → Q 0 → ∃ m, Q m ∧ ∀ k, Q k → k ≤ m
  | 0, hb, h0 => ⟨0, h0, hb⟩
  | B + 1, hb, h0 => by
    by_cases h : Q (B + 1)
    · exact ⟨B + 1, h, hb⟩
    · refine ex_max B (fun k hk => ?_) h0
      have h1 := hb k hk
      rcases Nat.lt_or_ge B k with h2 | h2
      · exact absurd ((show k = B + 1 by omega) ▸ hk) h
      · exact h2
theorem rin_lt {P : PG} {o r : Nat} (h : rin P o r = true) : r < pR P := by
  unfold rin at h
  simp at h
  exact h.1
theorem onw_mono {n : Nat} {D : Nat → Nat → Nat → Bool} {N E : Nat → Nat} {y g x : Nat} (h : y < 5 → N (ix n y g x) ≤ E (ix n y g x)) : onw n D N y g x ≤ onw n D E y g x := by
  unfold onw
  split
  · exact h (by assumption)
  · exact Nat.le_refl _
theorem onw_far {n : Nat} {D : Nat → Nat → Nat → Bool} {N : Nat → Nat} {y g x : Nat} (h : y < 5 → N (ix n y g x) ≤ FARN) : onw n D N y g x ≤ FARN := by
  unfold onw
  split
  · exact h (by assumption)
  · split
    · exact Nat.zero_le _
    · exact Nat.le_refl _
section RL
variable {P : PG} {r : Nat}
theorem WP.p5 (hp : WP P) (h : r < pR P) : rp P r < 5 := Nat.lt_of_lt_of_le (hp.2.2.2.2.1 r h).1 hp.1
theorem WP.g6 (hp : WP P) (h : r < pR P) : rg P r < 6 := Nat.lt_of_lt_of_le (hp.2.2.2.2.1 r h).2.1 hp.2.1
theorem WP.t5 (hp : WP P) (h : r < pR P) : rt P r < 5 := Nat.lt_of_lt_of_le (hp.2.2.2.2.1 r h).2.2.1 hp.1
theorem WP.n2 (hp : WP P) (h : r < pR P) : rn P r ≤ 2 := (hp.2.2.2.2.1 r h).2.2.2.1
theorem WP.a6 (hp : WP P) (h : r < pR P) (k : 1 ≤ rn P r) : ra P r < 6 := Nat.lt_of_lt_of_le ((hp.2.2.2.2.1 r h).2.2.2.2.1 k) hp.2.1
theorem WP.b6 (hp : WP P) (h : r < pR P) (k : 2 ≤ rn P r) : rb P r < 6 := Nat.lt_of_lt_of_le ((hp.2.2.2.2.1 r h).2.2.2.2.2.1 k) hp.2.1
theorem WP.c1 (hp : WP P) (h : r < pR P) : 1 ≤ rc P r := (hp.2.2.2.2.1 r h).2.2.2.2.2.2.1
theorem WP.c99 (hp : WP P) (h : r < pR P) : rc P r ≤ 99 := (hp.2.2.2.2.1 r h).2.2.2.2.2.2.2
end RL
section NET
variable {n : Nat} {I : Nat → Bool} {D : Nat → Nat → Nat → Bool} {P : PG} {o : Nat}
theorem StepC.mono (hp : WP P) {N E E' : Nat → Nat} (h : StepC n D P o N E) (k : ∀ e, e < 30 * n → E e ≤ E' e) : StepC n D P o N E' := by
  intro r hr
  have hl := rin_lt hr
  refine ⟨(h r hr).1, fun h1 x hx => ?_, fun h2 x hx y hy => ?_⟩
  · exact Nat.le_trans ((h r hr).2.1 h1 x hx) (cp_mono (Nat.le_refl _) (k _ (ix_lt (hp.t5 hl) (hp.a6 hl (by omega)) hx)))
  · exact Nat.le_trans ((h r hr).2.2 h2 x hx y hy) (cp_mono (Nat.le_refl _) (cp_mono (k _ (ix_lt (hp.t5 hl) (hp.a6 hl (by omega)) hy)) (onw_mono fun q => k _ (ix_lt q (hp.b6 hl (by omega)) hx))))
theorem StepC.monoL (hp : WP P) (hn : 5 ≤ n) {N N' E : Nat → Nat} (h : StepC n D P o N E) (k : ∀ e, e < 30 * n → N' e ≤ N e) : StepC n D P o N' E := by
  intro r hr
  have hl := rin_lt hr
  refine ⟨fun h0 => ?_, fun h1 x hx => ?_, fun h2 x hx y hy => ?_⟩
  · exact Nat.le_trans (k _ (ix_lt (hp.p5 hl) (hp.g6 hl) (Nat.lt_of_lt_of_le (hp.t5 hl) hn))) ((h r hr).1 h0)
  · exact Nat.le_trans (k _ (ix_lt (hp.p5 hl) (hp.g6 hl) hx)) ((h r hr).2.1 h1 x hx)
  · exact Nat.le_trans (k _ (ix_lt (hp.p5 hl) (hp.g6 hl) hx)) ((h r hr).2.2 h2 x hx y hy)
theorem Clo_zero : Clo n I D P o (fun _ => 0) := by
  refine ⟨fun _ _ => Nat.zero_le _, fun _ _ _ => rfl, fun r _ => ⟨fun _ => Nat.zero_le _, fun _ _ _ => Nat.zero_le _, fun _ _ _ _ _ => Nat.zero_le _⟩⟩
theorem GC_exists (hp : WP P) (hn : 5 ≤ n) : ∃ L, GC n I D P o L := by
  have hm : ∀ e, ∃ m, (∃ N, Clo n I D P o N ∧ (e < 30 * n → N e = m) ∧ m ≤ FARN) ∧ ∀ k, (∃ N, Clo n I D P o N ∧ (e < 30 * n → N e = k) ∧ k ≤ FARN) → k ≤ m := fun e =>
    ex_max FARN (fun k hk => hk.choose_spec.2.2) ⟨_, Clo_zero, fun _ => rfl, Nat.zero_le _⟩
  have hL : ∃ L : Nat → Nat, ∀ e, (∃ N, Clo n I D P o N ∧ (e < 30 * n → N e = L e) ∧ L e ≤ FARN) ∧ ∀ k, (∃ N, Clo n I D P o N ∧ (e < 30 * n → N e = k) ∧ k ≤ FARN) → k ≤ L e := ⟨fun e => (hm e).choose, fun e => (hm e).choose_spec⟩
  obtain ⟨L, hL⟩ := hL
  have hge : ∀ N, Clo n I D P o N → ∀ e, e < 30 * n → N e ≤ L e := fun N hN e he => (hL e).2 _ ⟨N, hN, fun _ => rfl, hN.1 e he⟩
  refine ⟨L, ⟨fun e _ => (hL e).1.choose_spec.2.2, fun e he hi => ?_, ?_⟩, hge⟩
  · obtain ⟨N, hN, h1, -⟩ := (hL e).1
    rw [← h1 he]
    exact hN.2.1 e he hi
  · intro r hr
    have hl := rin_lt hr
    have key : ∀ x, x < n → ∃ N, Clo n I D P o N ∧ N (ix n (rp P r) (rg P r) x) = L (ix n (rp P r) (rg P r) x) := fun x hx => by
      obtain ⟨N, hN, h1, -⟩ := (hL (ix n (rp P r) (rg P r) x)).1
      exact ⟨N, hN, h1 (ix_lt (hp.p5 hl) (hp.g6 hl) hx)⟩
    refine ⟨fun h0 => ?_, fun h1 x hx => ?_, fun h2 x hx y hy => ?_⟩
    · obtain ⟨N, hN, e⟩ := key (rt P r) (Nat.lt_of_lt_of_le (hp.t5 hl) hn)
      rw [← e]
      exact (hN.2.2 r hr).1 h0
    · obtain ⟨N, hN, e⟩ := key x hx
      rw [← e]
      exact (((hN.2.2).mono hp (hge N hN)) r hr).2.1 h1 x hx
    · obtain ⟨N, hN, e⟩ := key x hx
      rw [← e]
      exact (((hN.2.2).mono hp (hge N hN)) r hr).2.2 h2 x hx y hy
theorem GC_uniq {L L' : Nat → Nat} (h : GC n I D P o L) (h' : GC n I D P o L') : ∀ e, e < 30 * n → L e = L' e := fun e he => Nat.le_antisymm (h'.2 L h.1 e he) (h.2 L' h'.1 e he)
/-- a stage of the search -/
def Stg (n : Nat) (I : Nat → Bool) (E L : Nat → Nat) : Prop := (∀ e, e < 30 * n → E e ≤ FARN) ∧ (∀ e, e < 30 * n → I e = true → E e = 0) ∧ (∀ e, e < 30 * n → L e ≤ E e)
theorem stage_fin (hp : WP P) (hn : 5 ≤ n) {L E E' : Nat → Nat} (hL : GC n I D P o L) (hE : Stg n I E L) (hE' : ∀ e, e < 30 * n → L e ≤ E' e) (hs : StepC n D P o E' E) (same : ∀ e, e < 30 * n → E' e = L e → E e = L e) : ∀ e, e < 30 * n → E e = L e := by
  have main : ∀ m, ∀ e, e < 30 * n → E e ≠ L e → m ≤ L e := by
    intro m
    induction m with
    | zero => exact fun _ _ _ => Nat.zero_le _
    | succ m ih =>
      intro e0 he0 hne0
      refine Nat.lt_of_not_le fun hle => ?_
      have hm0 : L e0 = m := Nat.le_antisymm hle (ih e0 he0 hne0)
      have hmF : m < FARN := by
        have h1 := hE.1 e0 he0
        have h2 := hE.2.2 e0 he0
        omega
      let N : Nat → Nat := fun e => if E e ≠ L e ∧ L e = m then m + 1 else L e
      have hNL : ∀ e, L e ≤ N e := fun e => by
        show L e ≤ if E e ≠ L e ∧ L e = m then m + 1 else L e
        split <;> omega
      have hNn : ∀ e, e < 30 * n → E e ≠ L e → m + 1 ≤ N e := fun e he hne => by
        show m + 1 ≤ if E e ≠ L e ∧ L e = m then m + 1 else L e
        have := ih e he hne
        split
        · exact Nat.le_refl _
        · next h =>
          have : L e ≠ m := fun q => h ⟨hne, q⟩
          omega
      have hNf : ∀ e, E e = L e → N e = E e := fun e h => by
        show (if E e ≠ L e ∧ L e = m then m + 1 else L e) = E e
        rw [if_neg (fun q => q.1 h), h]
      have hNF : ∀ e, e < 30 * n → N e ≤ FARN := fun e he => by
        show (if E e ≠ L e ∧ L e = m then m + 1 else L e) ≤ FARN
        split
        · exact hmF
        · exact hL.1.1 e he
      -- at a value that is not final, the stage behind is above
      have hup : ∀ e, e < 30 * n → N e ≤ L e ∨ (N e = m + 1 ∧ m + 1 ≤ E' e) := fun e he => by
        show (if E e ≠ L e ∧ L e = m then m + 1 else L e) ≤ L e ∨ ((if E e ≠ L e ∧ L e = m then m + 1 else L e) = m + 1 ∧ _)
        by_cases h : E e ≠ L e ∧ L e = m
        · rw [if_pos h]
          refine .inr ⟨rfl, ?_⟩
          have h1 := hE' e he
          have h2 : E' e ≠ L e := fun q => h.1 (same e he q)
          omega
        · rw [if_neg h]
          exact .inl (Nat.le_refl _)
      have hN : Clo n I D P o N := by
        refine ⟨hNF, fun e he hi => ?_, fun r hr => ?_⟩
        · have h1 := hE.2.1 e he hi
          have h2 := hL.1.2.1 e he hi
          rw [hNf e (by rw [h1, h2]), h1]
        · have hl := rin_lt hr
          have sL := hL.1.2.2 r hr
          have sE := hs r hr
          refine ⟨fun h0 => ?_, fun h1 x hx => ?_, fun h2 x hx y hy => ?_⟩
          · rcases hup _ (ix_lt (hp.p5 hl) (hp.g6 hl) (Nat.lt_of_lt_of_le (hp.t5 hl) hn)) with q | q
            · exact Nat.le_trans q (sL.1 h0)
            · rw [q.1]
              exact Nat.le_trans q.2 (sE.1 h0)
          · have b1 := ix_lt (n := n) (hp.t5 hl) (hp.a6 hl (by omega)) hx
            rcases hup _ (ix_lt (hp.p5 hl) (hp.g6 hl) hx) with q | q
            · exact Nat.le_trans q (Nat.le_trans (sL.2.1 h1 x hx) (cp_mono (Nat.le_refl _) (hNL _)))
            · rw [q.1]
              by_cases hf : E (ix n (rt P r) (ra P r) x) = L (ix n (rt P r) (ra P r) x)
              · rw [hNf _ hf]
                exact Nat.le_trans q.2 (sE.2.1 h1 x hx)
              · exact Nat.le_trans (hNn _ b1 hf) (cp_geR (hNF _ b1))
          · have b1 := ix_lt (n := n) (hp.t5 hl) (hp.a6 hl (by omega)) hy
            rcases hup _ (ix_lt (hp.p5 hl) (hp.g6 hl) hx) with q | q
            · exact Nat.le_trans q (Nat.le_trans (sL.2.2 h2 x hx y hy) (cp_mono (Nat.le_refl _) (cp_mono (hNL _) (onw_mono fun _ => hNL _))))
            · rw [q.1]
              by_cases hf : E (ix n (rt P r) (ra P r) y) = L (ix n (rt P r) (ra P r) y)
              · by_cases hy5 : y < 5
                · have b2 := ix_lt (n := n) hy5 (hp.b6 hl (by omega)) hx
                  by_cases hf2 : E (ix n y (rb P r) x) = L (ix n y (rb P r) x)
                  · have e2 : onw n D N y (rb P r) x = onw n D E y (rb P r) x := by
                      unfold onw
                      rw [if_pos hy5, if_pos hy5, hNf _ hf2]
                    rw [hNf _ hf, e2]
                    exact Nat.le_trans q.2 (sE.2.2 h2 x hx y hy)
                  · have e2 : onw n D N y (rb P r) x = N (ix n y (rb P r) x) := by
                      unfold onw
                      rw [if_pos hy5]
                    rw [e2]
                    exact Nat.le_trans (hNn _ b2 hf2) (Nat.le_trans (cp_geR (hNF _ b2)) (cp_geR (cp_far _ _)))
                · have e2 : onw n D N y (rb P r) x = onw n D E y (rb P r) x := by
                    unfold onw
                    rw [if_neg hy5, if_neg hy5]
                  rw [hNf _ hf, e2]
                  exact Nat.le_trans q.2 (sE.2.2 h2 x hx y hy)
              · exact Nat.le_trans (hNn _ b1 hf) (Nat.le_trans (cp_geL (hNF _ b1)) (cp_geR (cp_far _ _)))
      have := hL.2 N hN e0 he0
      have h2 := hNn e0 he0 hne0
      omega
  intro e he
  refine Classical.byContradiction fun hne => ?_
  have h1 := main FARN e he hne
  have h2 := hE.1 e he
  have h3 := hE.2.2 e he
  omega
def nf (E L : Nat → Nat) : Nat → Nat
  | 0 => 0
  | k + 1 => nf E L k + if E k = L k then 0 else 1
theorem nf_le {E E' L : Nat → Nat} : ∀ k, (∀ e, e < k → E e = L e → E' e = L e) → nf E' L k ≤ nf E L k
  | 0, _ => Nat.le_refl _
  | k + 1, h => by
    have ih := nf_le k (fun e he => h e (by omega))
    have h2 := h k (by omega)
    show nf E' L k + (if E' k = L k then 0 else 1) ≤ nf E L k + (if E k = L k then 0 else 1)
    by_cases q : E k = L k
    · rw [if_pos q, if_pos (h2 q)]
      omega
    · rw [if_neg q]
      split <;> omega
theorem nf_same {E E' L : Nat → Nat} : ∀ k, (∀ e, e < k → E e = L e → E' e = L e) → nf E L k ≤ nf E' L k → ∀ e, e < k → E' e = L e → E e = L e
  | 0, _, _ => fun e he => absurd he (Nat.not_lt_zero e)
  | k + 1, h, hle => by
    have i1 := nf_le k (fun e he => h e (by omega))
    have h2 := h k (by omega)
    have hle' : nf E L k + (if E k = L k then 0 else 1) ≤ nf E' L k + (if E' k = L k then 0 else 1) := hle
    have hk : E' k = L k → E k = L k := fun q => by
      refine Classical.byContradiction fun hn => ?_
      rw [if_pos q, if_neg hn] at hle'
      omega
    have hle2 : nf E L k ≤ nf E' L k := by
      by_cases q : E k = L k
      · rw [if_pos q, if_pos (h2 q)] at hle'
        omega
      · rw [if_neg q, if_neg (fun z => q (hk z))] at hle'
        omega
    intro e he he2
    rcases Nat.lt_or_ge e k with q | q
    · exact nf_same k (fun e he => h e (by omega)) hle2 e q he2
    · have : e = k := by omega
      subst this
      exact hk he2
theorem nf_0 {E L : Nat → Nat} : ∀ k, nf E L k = 0 → ∀ e, e < k → E e = L e
  | 0, _ => fun e he => absurd he (Nat.not_lt_zero e)
  | k + 1, h => by
    have h' : nf E L k + (if E k = L k then 0 else 1) = 0 := h
    intro e he
    rcases Nat.lt_or_ge e k with q | q
    · exact nf_0 k (by omega) e q
    · have e1 : e = k := by omega
      subst e1
      refine Classical.byContradiction fun hn => ?_
      rw [if_neg hn] at h'
      omega
theorem nf_z {E L : Nat → Nat} : ∀ k, (∀ e, e < k → E e = L e) → nf E L k = 0
  | 0, _ => rfl
  | k + 1, h => by
    show nf E L k + (if E k = L k then 0 else 1) = 0
    rw [nf_z k (fun e he => h e (by omega)), if_pos (h k (by omega))]
theorem nf_top (E L : Nat → Nat) : ∀ k, nf E L k ≤ k
  | 0 => Nat.le_refl _
  | k + 1 => by
    have := nf_top E L k
    show nf E L k + (if E k = L k then 0 else 1) ≤ k + 1
    split <;> omega
/-- what a round does -/
def Rnd (n : Nat) (D : Nat → Nat → Nat → Bool) (P : PG) (o : Nat) (E E' : Nat → Nat) : Prop :=
  (∀ e, e < 30 * n → E' e ≤ E e) ∧ (∀ N, (∀ e, e < 30 * n → N e ≤ FARN) → StepC n D P o N N → (∀ e, e < 30 * n → N e ≤ E e) → ∀ e, e < 30 * n → N e ≤ E' e) ∧ StepC n D P o E' E
theorem Rnd.stg {L E E' : Nat → Nat} (hL : GC n I D P o L) (hE : Stg n I E L) (h : Rnd n D P o E E') : Stg n I E' L :=
  ⟨fun e he => Nat.le_trans (h.1 e he) (hE.1 e he), fun e he hi => Nat.le_zero.mp (by rw [← hE.2.1 e he hi]; exact h.1 e he), h.2.1 L hL.1.1 hL.1.2.2 hE.2.2⟩
theorem Rnd.cnt (hp : WP P) (hn : 5 ≤ n) {L E E' : Nat → Nat} (hL : GC n I D P o L) (hE : Stg n I E L) (h : Rnd n D P o E E') : nf E' L (30 * n) < nf E L (30 * n) ∨ (nf E L (30 * n) = 0 ∧ nf E' L (30 * n) = 0) := by
  have hE' := h.stg hL hE
  have hf : ∀ e, e < 30 * n → E e = L e → E' e = L e := fun e he q => Nat.le_antisymm (by rw [← q]; exact h.1 e he) (hE'.2.2 e he)
  rcases Nat.lt_or_ge (nf E' L (30 * n)) (nf E L (30 * n)) with q | q
  · exact .inl q
  · have hs := stage_fin hp hn hL hE hE'.2.2 h.2.2 (nf_same _ hf q)
    exact .inr ⟨nf_z _ hs, nf_z _ fun e he => hf e he (hs e he)⟩
theorem Rnd.fin (hp : WP P) (hn : 5 ≤ n) {L E E' : Nat → Nat} (hL : GC n I D P o L) (hE : Stg n I E L) (h : Rnd n D P o E E') (same : ∀ e, e < 30 * n → E' e = E e) : ∀ e, e < 30 * n → E e = L e :=
  stage_fin hp hn hL hE (h.stg hL hE).2.2 h.2.2 (fun e he q => by rw [← same e he]; exact q)
end NET
