/-! COSTS ARE MET: a cost is made of rules; it is 0 at a goal alone -/
section ATT
variable {n : Nat} {I : Nat → Bool} {D : Nat → Nat → Nat → Bool} {P : PG} {o : Nat}
/-- by one rule -/
def alt (n : Nat) (D : Nat → Nat → Nat → Bool) (P : PG) (L : Nat → Nat) (r x v : Nat) : Prop :=
  (rn P r = 0 ∧ x = rt P r ∧ v = rc P r) ∨ (rn P r = 1 ∧ v = cp (rc P r) (L (ix n (rt P r) (ra P r) x))) ∨ (rn P r = 2 ∧ ∃ y, y < n ∧ v = cp (rc P r) (cp (L (ix n (rt P r) (ra P r) y)) (onw n D L y (rb P r) x)))
theorem GC_attain (hp : WP P) (hn : 5 ≤ n) {L : Nat → Nat} (hL : GC n I D P o L) {p g x : Nat} (h5 : p < 5) (h6 : g < 6) (hx : x < n) (hI : I (ix n p g x) = false) (hF : L (ix n p g x) ≠ FARN) :
    ∃ r, rin P o r = true ∧ rp P r = p ∧ rg P r = g ∧ alt n D P L r x (L (ix n p g x)) := by
  refine Classical.byContradiction fun hno => ?_
  have he := ix_lt (n := n) h5 h6 hx
  have hlt : L (ix n p g x) < FARN := Nat.lt_of_le_of_ne (hL.1.1 _ he) hF
  let N : Nat → Nat := fun e => if e = ix n p g x then L (ix n p g x) + 1 else L e
  have hNL : ∀ e, L e ≤ N e := fun e => by
    show L e ≤ if e = ix n p g x then L (ix n p g x) + 1 else L e
    split
    · next c => rw [c]; omega
    · exact Nat.le_refl _
  have hNe : ∀ e, e ≠ ix n p g x → N e = L e := fun e h => if_neg h
  have hN : Clo n I D P o N := by
    refine ⟨fun e he' => ?_, fun e he' hi => ?_, fun r hr => ?_⟩
    · show (if e = ix n p g x then L (ix n p g x) + 1 else L e) ≤ FARN
      split
      · exact hlt
      · exact hL.1.1 e he'
    · rw [hNe e (fun q => by rw [q, hI] at hi; cases hi)]
      exact hL.1.2.1 e he' hi
    · have hl := rin_lt hr
      have st := hL.1.2.2 r hr
      have g6 := hp.g6 hl
      have t5 := hp.t5 hl
      -- an alternative at another head, or another node, is as before; here it isn't met
      have key : ∀ x' v v', x' < n → L (ix n (rp P r) (rg P r) x') ≤ v → v ≤ v' → alt n D P L r x' v → N (ix n (rp P r) (rg P r) x') ≤ v' := fun x' v v' hx' h1 h2 ha => by
        by_cases c : ix n (rp P r) (rg P r) x' = ix n p g x
        · obtain ⟨c1, c2, c3⟩ := ix_inj g6 hx' h6 hx c
          rw [c]
          show (if ix n p g x = ix n p g x then L (ix n p g x) + 1 else L (ix n p g x)) ≤ v'
          rw [if_pos rfl]
          rcases Nat.lt_or_ge (L (ix n p g x)) v with q | q
          · omega
          · exfalso
            refine hno ⟨r, hr, c1, c2, ?_⟩
            rw [c] at h1
            have e : L (ix n p g x) = v := Nat.le_antisymm h1 q
            rw [e, ← c3]
            exact ha
        · rw [hNe _ c]
          exact Nat.le_trans h1 h2
      refine ⟨fun h0 => key _ _ _ (Nat.lt_of_lt_of_le t5 hn) (st.1 h0) (Nat.le_refl _) (.inl ⟨h0, rfl, rfl⟩), fun h1 x' hx' => ?_, fun h2 x' hx' y hy => ?_⟩
      · exact key _ _ _ hx' (st.2.1 h1 x' hx') (cp_mono (Nat.le_refl _) (hNL _)) (.inr (.inl ⟨h1, rfl⟩))
      · exact key _ _ _ hx' (st.2.2 h2 x' hx' y hy) (cp_mono (Nat.le_refl _) (cp_mono (hNL _) (onw_mono fun _ => hNL _))) (.inr (.inr ⟨h2, y, hy, rfl⟩))
  have := hL.2 N hN _ he
  have e : N (ix n p g x) = L (ix n p g x) + 1 := if_pos rfl
  omega
theorem cp_ge1 {a b : Nat} (h : 1 ≤ a) : 1 ≤ cp a b := by
  unfold cp CAPN FARN
  repeat' split
  all_goals omega
theorem cp_z {a b : Nat} (h : cp a b = 0) : a = 0 ∧ b = 0 := by
  unfold cp CAPN FARN at h
  split at h
  · omega
  · split at h <;> omega
/-- an edge that costs nothing is one of the first ones -/
theorem GC_zero (hp : WP P) (hn : 5 ≤ n) {L : Nat → Nat} (hL : GC n I D P o L) {p g x : Nat} (h5 : p < 5) (h6 : g < 6) (hx : x < n) : L (ix n p g x) = 0 ↔ I (ix n p g x) = true := by
  refine ⟨fun h => ?_, fun h => hL.1.2.1 _ (ix_lt h5 h6 hx) h⟩
  refine Classical.byContradiction fun hno => ?_
  rw [Bool.not_eq_true] at hno
  obtain ⟨r, hr, -, -, ha⟩ := GC_attain hp hn hL h5 h6 hx hno (by rw [h]; unfold FARN; omega)
  have c1 := hp.c1 (rin_lt hr)
  rw [h] at ha
  rcases ha with ⟨-, -, q⟩ | ⟨-, q⟩ | ⟨-, y, -, q⟩
  · omega
  · have := cp_ge1 (a := rc P r) (b := L (ix n (rt P r) (ra P r) x)) c1
    omega
  · have := cp_ge1 (a := rc P r) (b := cp (L (ix n (rt P r) (ra P r) y)) (onw n D L y (rb P r) x)) c1
    omega
end ATT
/-- a place is at an aim -/
def atT (T : TG) (p H : Nat) (s : Nat → Nat) : Prop := ∃ k, k < tK T ∧ tS T k = p ∧ (if tM T k = 1 then tN T k ≤ H else H = tN T k) ∧ ∀ i, i < tN T k → s (H - 1 - i) = tG T k i
section ATG
variable {T : TG} {P : PG} {o : Nat} {D : Nat → Nat → Nat → Bool} {F s : Nat → Nat}
/-- what is still to be read of an aim -/
def rst (T : TG) (k n h : Nat) (s : Nat → Nat) : Prop := (if tM T k = 1 then tN T k ≤ n + h else n + h = tN T k) ∧ ∀ i, n + i < tN T k → s (h - 1 - i) = tG T k (n + i)
theorem cp_0F {a : Nat} (h : a = 0 ∨ a = FARN) : cp 0 a = a := by
  rcases h with h | h <;> rw [h] <;> rfl
theorem e21_k (hT : okT (pG P) T) {k n : Nat} (hk : k < tK T) (hn : n ≤ tN T k) {g y : Nat} : e21 T D F (5 + 4 * k + n) g y = if D (5 + 4 * k + n) g y = true then 0 else FARN := by
  have h3 := (hT.2.2 k hk).2.1
  unfold e21 onw
  rw [if_neg (by omega), if_neg (by omega)]
theorem z21_k (hT : okT (pG P) T) {k n : Nat} (hk : k < tK T) (hn : n ≤ tN T k) : z21 T (5 + 4 * k + n) = if n = tN T k then 0 else FARN := by
  have h3 := (hT.2.2 k hk).2.1
  unfold z21 isE
  rw [if_neg (show ¬ 5 + 4 * k + n < 5 by omega), show (5 + 4 * k + n - 5) / 4 = k by omega, show (5 + 4 * k + n - 5) % 4 = n by omega, decide_eq_true hk, Bool.true_and]
  by_cases c : n = tN T k
  · rw [decide_eq_true c, if_pos rfl, if_pos c]
  · rw [decide_eq_false c, if_neg c, if_neg (by decide)]
theorem val_k (hT : okT (pG P) T) (hD : okD T D) : ∀ h k n, k < tK T → n ≤ tN T k → (val 21 (e21 T D F) (z21 T) s h (5 + 4 * k + n) = 0 ∨ val 21 (e21 T D F) (z21 T) s h (5 + 4 * k + n) = FARN) ∧ (val 21 (e21 T D F) (z21 T) s h (5 + 4 * k + n) = 0 ↔ rst T k n h s)
  | 0, k, n, hk, hn => by
    have hm := (hT.2.2 k hk).2.2.1
    have e : val 21 (e21 T D F) (z21 T) s 0 (5 + 4 * k + n) = if n = tN T k then 0 else FARN := z21_k hT hk hn
    rw [e]
    unfold rst
    by_cases c : n = tN T k
    · rw [if_pos c]
      refine ⟨.inl rfl, ⟨fun _ => ⟨?_, fun i hi => by omega⟩, fun _ => rfl⟩⟩
      split <;> omega
    · rw [if_neg c]
      refine ⟨.inr rfl, ⟨fun q => by unfold FARN at q; omega, fun q => ?_⟩⟩
      exfalso
      have := q.1
      split at this <;> omega
  | h + 1, k, n, hk, hn => by
    obtain ⟨ok1, ok2, ok3⟩ := hT
    have hT : okT (pG P) T := ⟨ok1, ok2, ok3⟩
    have h3 := (ok3 k hk).2.1
    have hm := (ok3 k hk).2.2.1
    have dd : ∀ y, y < 21 → (D (5 + 4 * k + n) (s h) y = true ↔ (n = tN T k ∧ tM T k = 1 ∧ y = 5 + 4 * k + n) ∨ (n < tN T k ∧ tG T k n = s h ∧ y = 5 + 4 * k + n + 1)) := fun y hy => hD k n (s h) y hk (by omega) hy
    have one : ∀ t, t < 21 → (∀ y, y < 21 → (D (5 + 4 * k + n) (s h) y = true ↔ y = t)) → (val 21 (e21 T D F) (z21 T) s h t = 0 ∨ val 21 (e21 T D F) (z21 T) s h t = FARN) → val 21 (e21 T D F) (z21 T) s (h + 1) (5 + 4 * k + n) = val 21 (e21 T D F) (z21 T) s h t := fun t ht hd h0 => by
      refine (mnf_one (f := fun y => cp (e21 T D F (5 + 4 * k + n) (s h) y) (val 21 (e21 T D F) (z21 T) s h y)) ht (cp_far _ _) (fun y hy hne => ?_)).trans ?_
      · show FARN ≤ cp (e21 T D F (5 + 4 * k + n) (s h) y) _
        rw [e21_k hT hk hn, if_neg (fun q => hne ((hd y hy).mp q)), cp_F']
        exact Nat.le_refl _
      · show cp (e21 T D F (5 + 4 * k + n) (s h) t) _ = _
        rw [e21_k hT hk hn, if_pos ((hd t ht).mpr rfl), cp_0F h0]
    have none : (∀ y, y < 21 → ¬ D (5 + 4 * k + n) (s h) y = true) → val 21 (e21 T D F) (z21 T) s (h + 1) (5 + 4 * k + n) = FARN := fun hd =>
      mnf_all (f := fun y => cp (e21 T D F (5 + 4 * k + n) (s h) y) (val 21 (e21 T D F) (z21 T) s h y)) (fun y hy => by
        show FARN ≤ cp (e21 T D F (5 + 4 * k + n) (s h) y) _
        rw [e21_k hT hk hn, if_neg (hd y hy), cp_F']
        exact Nat.le_refl _)
    have f0 : FARN ≠ 0 := by unfold FARN; omega
    by_cases c : n = tN T k
    · by_cases c1 : tM T k = 1
      · have ih := val_k hT hD h k n hk hn
        rw [one (5 + 4 * k + n) (by omega) (fun y hy => by rw [dd y hy]; omega) ih.1]
        refine ⟨ih.1, ih.2.trans ?_⟩
        unfold rst
        rw [if_pos c1, if_pos c1]
        exact ⟨fun _ => ⟨by omega, fun i hi => by omega⟩, fun _ => ⟨by omega, fun i hi => by omega⟩⟩
      · rw [none (fun y hy q => by rw [dd y hy] at q; omega)]
        refine ⟨.inr rfl, ⟨fun q => absurd q f0, fun q => ?_⟩⟩
        unfold rst at q
        rw [if_neg c1] at q
        omega
    · by_cases c1 : tG T k n = s h
      · have ih := val_k hT hD h k (n + 1) hk (by omega)
        rw [show 5 + 4 * k + (n + 1) = 5 + 4 * k + n + 1 by omega] at ih
        rw [one (5 + 4 * k + n + 1) (by omega) (fun y hy => by rw [dd y hy]; omega) ih.1]
        refine ⟨ih.1, ih.2.trans ?_⟩
        unfold rst
        refine and_congr ?_ ⟨fun q i hi => ?_, fun q i hi => ?_⟩
        · split <;> omega
        · rcases i with _ | i
          · rw [show h + 1 - 1 - 0 = h by omega, ← c1]
            rfl
          · have := q i (by omega)
            rw [show h + 1 - 1 - (i + 1) = h - 1 - i by omega, this]
            congr 1
            omega
        · have := q (i + 1) (by omega)
          rw [show h + 1 - 1 - (i + 1) = h - 1 - i by omega] at this
          rw [this]
          congr 1
          omega
      · rw [none (fun y hy q => by rw [dd y hy] at q; omega)]
        refine ⟨.inr rfl, ⟨fun q => absurd q f0, fun q => ?_⟩⟩
        have := q.2 0 (by omega)
        exact absurd (by rw [show h + 1 - 1 - 0 = h by omega] at this; exact this.symm) c1
theorem val_at (hp : WP P) (hT : okT (pG P) T) (hD : okD T D) (hF : Net P o T F) {H p : Nat} (hs : ∀ i, i < H → s i < pG P) (h5 : p < 5) : val 21 (e21 T D F) (z21 T) s H p = 0 ↔ atT T p H s := by
  have f0 : FARN ≠ 0 := by unfold FARN; omega
  rcases H with _ | h
  · show z21 T p = 0 ↔ _
    unfold z21 isE
    rw [if_pos h5]
    constructor
    · intro q
      by_cases c : ((List.range (tK T)).any (fun k => decide (tS T k = p) && decide (tN T k = 0))) = true
      · obtain ⟨k, hk, e⟩ := any_iff.mp c
        rw [Bool.and_eq_true] at e
        have e1 := of_decide_eq_true e.1
        have e2 := of_decide_eq_true e.2
        refine ⟨k, hk, e1, ?_, fun i hi => by omega⟩
        split <;> omega
      · rw [if_neg c] at q
        exact absurd q f0
    · rintro ⟨k, hk, e1, e2, e3⟩
      have : tN T k = 0 := by split at e2 <;> omega
      rw [if_pos (any_iff.mpr ⟨k, hk, by rw [decide_eq_true e1, decide_eq_true this]; rfl⟩)]
  · have g6 := hT.1
    have hg : s h < pG P := hs h (by omega)
    have ee : ∀ y, e21 T D F p (s h) y = F (ix 21 p (s h) y) := fun y => by
      unfold e21 onw
      rw [if_neg (by omega), if_pos h5]
    have z : ∀ y, y < 21 → (F (ix 21 p (s h) y) = 0 ↔ initM (pG P) T (ix 21 p (s h) y) = true) := fun y hy => GC_zero hp (by omega) hF h5 (by omega) hy
    have main : val 21 (e21 T D F) (z21 T) s (h + 1) p = 0 ↔ ∃ y, y < 21 ∧ F (ix 21 p (s h) y) = 0 ∧ val 21 (e21 T D F) (z21 T) s h y = 0 := by
      constructor
      · intro q
        rcases mnf_ex (fun y => cp (e21 T D F p (s h) y) (val 21 (e21 T D F) (z21 T) s h y)) 21 with e | ⟨y, hy, e⟩
        · have : val 21 (e21 T D F) (z21 T) s (h + 1) p = FARN := e
          rw [this] at q
          exact absurd q f0
        · have : val 21 (e21 T D F) (z21 T) s (h + 1) p = cp (e21 T D F p (s h) y) (val 21 (e21 T D F) (z21 T) s h y) := e
          rw [this, ee] at q
          exact ⟨y, hy, cp_z q⟩
      · rintro ⟨y, hy, q1, q2⟩
        have e0 : cp (e21 T D F p (s h) y) (val 21 (e21 T D F) (z21 T) s h y) = 0 := by
          rw [ee, q1, q2]
          exact cp_0F (.inl rfl)
        have e1 : val 21 (e21 T D F) (z21 T) s (h + 1) p = mnf (fun y => cp (e21 T D F p (s h) y) (val 21 (e21 T D F) (z21 T) s h y)) 21 := rfl
        rw [e1]
        have e2 := mnf_le (fun y => cp (e21 T D F p (s h) y) (val 21 (e21 T D F) (z21 T) s h y)) 21 y hy
        rw [e0] at e2
        exact Nat.eq_zero_of_le_zero e2
    rw [main]
    constructor
    · rintro ⟨y, hy, q1, q2⟩
      obtain ⟨k, hk, g, hg2, q⟩ := initM_iff.mp ((z y hy).mp q1)
      obtain ⟨t1, t2, t3, t4⟩ := hT.2.2 k hk
      have k4 := hT.2.1
      rcases q with ⟨c1, c2, c3⟩ | ⟨c1, c2, c3⟩
      · obtain ⟨d1, d2, d3⟩ := ix_inj (by omega) hy (by omega) (by omega) c3
        subst d3
        have := (val_k hT hD h k 0 hk (by omega)).2.mp q2
        refine ⟨k, hk, d1.symm, by rw [if_pos c2]; omega, fun i hi => by omega⟩
      · obtain ⟨d1, d2, d3⟩ := ix_inj (by omega) hy (by omega) (by omega) c3
        subst d3
        have q3 := (val_k hT hD h k 1 hk (by omega)).2.mp q2
        refine ⟨k, hk, d1.symm, ?_, fun i hi => ?_⟩
        · have := q3.1
          split at this <;> (split <;> omega)
        · rcases i with _ | i
          · rw [show h + 1 - 1 - 0 = h by omega, d2, ← c2]
          · have := q3.2 i (by omega)
            rw [show h + 1 - 1 - (i + 1) = h - 1 - i by omega, this]
            congr 1
            omega
    · rintro ⟨k, hk, e1, e2, e3⟩
      obtain ⟨t1, t2, t3, t4⟩ := hT.2.2 k hk
      by_cases c : tN T k = 0
      · have c1 : tM T k = 1 := by split at e2 <;> omega
        refine ⟨5 + 4 * k, by have := hT.2.1; omega, (z _ (by have := hT.2.1; omega)).mpr (initM_iff.mpr ⟨k, hk, s h, hg, .inl ⟨c, c1, by rw [e1]⟩⟩), ?_⟩
        have := (val_k (F := F) (s := s) hT hD h k 0 hk (by omega)).2.mpr ⟨by rw [if_pos c1]; omega, fun i hi => by omega⟩
        exact this
      · have e0 := e3 0 (by omega)
        rw [show h + 1 - 1 - 0 = h by omega] at e0
        refine ⟨5 + 4 * k + 1, by have := hT.2.1; omega, (z _ (by have := hT.2.1; omega)).mpr (initM_iff.mpr ⟨k, hk, s h, hg, .inr ⟨c, e0.symm, by rw [e1]⟩⟩), ?_⟩
        refine (val_k (F := F) (s := s) hT hD h k 1 hk (by omega)).2.mpr ⟨?_, fun i hi => ?_⟩
        · split at e2 <;> (split <;> omega)
        · have := e3 (i + 1) (by omega)
          rw [show h + 1 - 1 - (i + 1) = h - 1 - i by omega] at this
          rw [this]
          congr 1
          omega
end ATG
