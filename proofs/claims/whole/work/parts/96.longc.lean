/-! THE MOST STEPS FROM NOW: the face, the class -/
def loA (P : PG) (o : Nat) (cn : Nat → Nat → Nat → Bool) (p0 H : Nat) (s : Nat → Nat) (l : Nat → Bool) (r : Int64) : Prop := (enP P cn p0 H s l → r = -1) ∧ (¬ enP P cn p0 H s l → r = vv (dpM P (VA P o cn) (VB P o cn) p0 H s H))
section LONGC
variable {P : PG} {o : Nat} {cn : Nat → Nat → Nat → Bool}
theorem enP_eq (hp : WP P) {p0 H : Nat} {s : Nat → Nat} (hs : ∀ i, i < H → s i < 6) {l l' : Nat → Bool} (a1 : LsA P o cn l) (a2 : LsA P o cn l') : enP P cn p0 H s l ↔ enP P cn p0 H s l' := exists_congr fun d => exists_congr fun q => and_congr_right fun hit => by
  have := hit.1
  have h5 := hp.1
  have := hit.2.1
  rw [LsA_eq a1 a2 _ (by have := hs (H - 1 - d) (by omega); omega)]
theorem loA_eq (hp : WP P) {p0 H : Nat} {s : Nat → Nat} (hs : ∀ i, i < H → s i < 6) {l l' : Nat → Bool} {r r' : Int64} (a1 : LsA P o cn l) (a2 : LsA P o cn l') (e1 : loA P o cn p0 H s l r) (e2 : loA P o cn p0 H s l' r') : r = r' := by
  have := enP_eq (p0 := p0) hp hs a1 a2
  by_cases c : enP P cn p0 H s l
  · rw [e1.1 c, e2.1 (this.mp c)]
  · rw [e1.2 c, e2.2 (fun z => c (this.mpr z))]
theorem EqD_of {p0 H : Nat} {s : Nat → Nat} (hp : WP P) (hs : ∀ i, i < H → s i < 6) {l : Nat → Bool} {A B : Nat → Nat} (hv : ∀ h, h < 30 → l h = false → B h = VB P o cn h ∧ ∀ q, q < 5 → A (5 * h + q) = VA P o cn (5 * h + q)) (hn : ¬ enP P cn p0 H s l) : EqD P o cn p0 H s A B := fun d p hd hp' hu => by
  have p5 := hp.1
  have := hs (H - 1 - d) (by omega)
  refine hv _ (by omega) ?_
  rw [← Bool.not_eq_true]
  exact fun z => hn ⟨d, p, ⟨hd, hp', hu⟩, z⟩
theorem S11_longest {M : MM} {nw : NW} (h : CoC M P o nw) (hc : CostC M P o) (hcn : CnOK P o cn) : ∃ M' r, f11_longest M 1 = some (r, M') ∧ SmH [1, 48, 52] [34, 36, 54, 56, 58, 60] M M' ∧ (∀ j, j ≠ 13 → mI M' 1 j = mI M 1 j) ∧ CoC M' P o nw ∧ CostC M' P o ∧ (nw = none → r = -2) ∧ ∀ p H s, nw = some (p, H, s) → ∃ l, LsA P o cn l ∧ loA P o cn p H s l r := by
  have w := h.w
  unfold f11_longest
  rw [aO_1 w, r_1_2 w, aO_23 w, S6_isNone w h.2.2.2.2.2.1 h.2.2.2.2.2.2 h.p, cI_some]
  rcases nw with _ | ⟨p0, H, s⟩
  · rw [if_neg (show ¬ bI (Option.isNone (none : NW)) = 0 by decide)]
    exact ⟨M, -2, rfl, (Sm.rfl _ _ _).h, fun _ _ => rfl, h, hc, fun _ => rfl, fun _ _ _ q => by cases q⟩
  · obtain ⟨M1, M2, a1, l, g, r, d1, w1, d2, d3, d4, d5, d6, d7, d8, d9, d10, d11⟩ := S11_endH h hc hcn
    have w2 := d8.w
    rw [if_pos (show bI (Option.isNone (some (p0, H, s) : NW)) = 0 from rfl), aO_1 w, d1, cV_some, aO_1 w1, r_1_8 w1, aO_48 w1, d2, cV_some, aO_1 w2, aO_1 w2, r_1_8 w2, aO_48 w2, r_1_2 w2, d10, cI_some]
    cases r with
    | true =>
      rw [bI_t, if_neg (by decide)]
      exact ⟨M2, -1, rfl, d6.more (by decide) (by decide), d7, d8, d9, (fun q => by cases q), fun p' H' s' q => by cases q; exact ⟨l, d5, fun _ => rfl, fun z => absurd (d11.mp rfl) z⟩⟩
    | false =>
      have hn : ¬ enP P cn p0 H s l := fun z => by have := d11.mpr z; cases this
      obtain ⟨rk, hrk⟩ := Rk_ex d5
      obtain ⟨M3, A, B, m1, m2, m3, m4, m5⟩ := S2_findMost d3 h.p (o_lt h.lo) hcn hrk d4
      have w3 := w2.sm m2
      have hd3 : HdC M3 a1 P o cn := d3.sm m2 (by decide) (by decide)
      have h3 : CoC M3 P o (some (p0, H, s)) := d8.sm m2 (by rw [m2.i 1 (by decide)]) (by decide)
      have hc3 : CostC M3 P o := d9.sm m2 (by rw [m2.i 1 (by decide)]) (by decide)
      obtain ⟨n1, n2, n3⟩ := h3.2.2.2.2.2.2
      have n2' : H ≤ 40 := n2
      have hs : ∀ i, i < H → s i < 6 := fun i hi => Nat.lt_of_lt_of_le (n3 i hi) h.p.2.1
      obtain ⟨M4, q1, q2⟩ := S2_mostFrom (p0 := p0) (H := H) (s := s) hd3 h.p hcn m3 m4 h3.2.2.2.2.2.1 n1 n2' hs (EqD_of h.p hs m5 hn)
      rw [bI_f, if_pos rfl, aO_1 w2, r_1_8 w2, aO_48 w2, m1, cV_some, aO_1 w3, aO_1 w3, r_1_8 w3, aO_48 w3, r_1_2 w3, q1, cJ_some]
      have s4 : Sm [] [54, 56, 58, 60] M2 M4 := (m2.more (by decide) (by decide)).trans (q2.more (by decide) (by decide))
      exact ⟨M4, _, rfl, (d6.more (by decide) (by decide)).trans (s4.h.more (by decide) (by decide)), fun j hj => by rw [s4.i 1 (by decide)]; exact d7 j hj, d8.sm s4 (by rw [s4.i 1 (by decide)]) (by decide), d9.sm s4 (by rw [s4.i 1 (by decide)]) (by decide), (fun q => by cases q), fun p' H' s' q => by cases q; exact ⟨l, d5, fun z => absurd z hn, fun _ => rfl⟩⟩
end LONGC
