/-! WHERE IT GETS STUCK: many heads at once -/
def Db (sg : Nat) (y g x : Nat) : Bool := bs sg (ix 15 y g x)
/-- a set of heads -/
def sU (sg : Nat) (hd : Nat → Nat → Bool) (i : Nat) : Bool := bs sg i || (List.range 5).any fun p => (List.range 6).any fun g => hd p g && i == ix 15 p g 5
theorem bs_iff {sg i : Nat} : bs sg i = true ↔ ∃ g, g < sg ∧ i = ix 15 5 g 5 := by
  unfold bs
  rw [List.any_eq_true]
  constructor
  · rintro ⟨g, hg, e⟩
    exact ⟨g, List.mem_range.mp hg, by simpa using e⟩
  · rintro ⟨g, hg, e⟩
    exact ⟨g, List.mem_range.mpr hg, by simpa using e⟩
theorem sU_iff {sg i : Nat} {hd : Nat → Nat → Bool} : sU sg hd i = true ↔ bs sg i = true ∨ ∃ p g, p < 5 ∧ g < 6 ∧ hd p g = true ∧ i = ix 15 p g 5 := by
  unfold sU
  rw [Bool.or_eq_true, List.any_eq_true]
  constructor
  · rintro (h | ⟨p, hp, h⟩)
    · exact .inl h
    · rw [List.any_eq_true] at h
      obtain ⟨g, hg, h⟩ := h
      rw [Bool.and_eq_true] at h
      exact .inr ⟨p, g, List.mem_range.mp hp, List.mem_range.mp hg, h.1, by simpa using h.2⟩
  · rintro (h | ⟨p, g, hp, hg, h1, h2⟩)
    · exact .inl h
    · refine .inr ⟨p, List.mem_range.mpr hp, ?_⟩
      rw [List.any_eq_true]
      exact ⟨g, List.mem_range.mpr hg, by rw [h1, h2]; simp⟩
theorem ix_inj5 {p g x p' g' x' : Nat} (hg : g < 6) (hx : x < 15) (hg' : g' < 6) (hx' : x' < 15) (h : ix 15 p g x = ix 15 p' g' x') : p = p' ∧ g = g' ∧ x = x' := ix_inj hg hx hg' hx' h
section STK
variable {P : PG} {o : Nat} {hd : Nat → Nat → Bool}
theorem sU_D (hp : WP P) {y g x : Nat} (hy : 5 ≤ y) (hg : g < 6) (hx : x < 15) : sU (pG P) hd (ix 15 y g x) = Db (pG P) y g x := by
  refine Bool.eq_iff_iff.mpr ⟨fun h => ?_, fun h => sU_iff.mpr (.inl h)⟩
  rcases sU_iff.mp h with h | ⟨p, g', h1, h2, -, h3⟩
  · exact h
  · have := (ix_inj5 hg hx h2 (by omega) h3).1
    omega
theorem bs_x {y g x : Nat} (hp : WP P) (hg : g < 6) (hx : x < 15) : Db (pG P) y g x = true ↔ y = 5 ∧ g < pG P ∧ x = 5 := by
  unfold Db
  rw [bs_iff]
  constructor
  · rintro ⟨g', h1, h2⟩
    have g6 := hp.2.1
    have := ix_inj5 hg hx (show g' < 6 by omega) (by omega) h2
    exact ⟨this.1, by omega, this.2.2⟩
  · rintro ⟨rfl, h1, rfl⟩
    exact ⟨g, h1, rfl⟩
/-- nets of one base -/
def GB (P : PG) (o : Nat) (S : Nat → Bool) (E : Nat → Nat) : Prop := GC 15 S (Db (pG P)) P o E
theorem GB_mono (hp : WP P) {S S' : Nat → Bool} {E E' : Nat → Nat} (h : GB P o S E) (h' : GB P o S' E') (k : ∀ i, S i = true → S' i = true) : ∀ e, e < 450 → E' e ≤ E e :=
  h.2 E' ⟨h'.1.1, fun e he hi => h'.1.2.1 e he (k e hi), h'.1.2.2⟩
def headL (hd : Nat → Nat → Bool) (L : Nat → Nat → Nat → Nat) (e : Nat) : Nat := mnf (fun q => if hd (q / 6) (q % 6) = true then L (q / 6) (q % 6) e else FARN) 30
theorem headL_le {L : Nat → Nat → Nat → Nat} {e p g : Nat} (hp : p < 5) (hg : g < 6) (h : hd p g = true) : headL hd L e ≤ L p g e := by
  have q := mnf_le (fun q => if hd (q / 6) (q % 6) = true then L (q / 6) (q % 6) e else FARN) 30 (6 * p + g) (by omega)
  have e1 : (6 * p + g) / 6 = p := by omega
  have e2 : (6 * p + g) % 6 = g := by omega
  simp only [e1, e2, h, if_true] at q
  exact q
theorem headL_ex {L : Nat → Nat → Nat → Nat} {e : Nat} : headL hd L e = FARN ∨ ∃ p g, p < 5 ∧ g < 6 ∧ hd p g = true ∧ headL hd L e = L p g e := by
  rcases mnf_ex (fun q => if hd (q / 6) (q % 6) = true then L (q / 6) (q % 6) e else FARN) 30 with q | ⟨i, hi, q⟩
  · exact .inl q
  · by_cases c : hd (i / 6) (i % 6) = true
    · rw [if_pos c] at q
      exact .inr ⟨i / 6, i % 6, by omega, by omega, c, q⟩
    · rw [if_neg c] at q
      exact .inl q
theorem headN_clo (hp : WP P) {L0 : Nat → Nat} {L : Nat → Nat → Nat → Nat} (h0 : GB P o (bs (pG P)) L0) (hL : ∀ p g, p < 5 → g < 6 → hd p g = true → GB P o (fun i => bs (pG P) i || i == ix 15 p g 5) (L p g)) :
    Clo 15 (sU (pG P) hd) (Db (pG P)) P o (fun e => if e % 15 < 5 then L0 e else if e % 15 = 5 then headL hd L e else FARN) := by
  have g6 := hp.2.1
  have nx : ∀ {p g x}, x < 15 → (fun e => if e % 15 < 5 then L0 e else if e % 15 = 5 then headL hd L e else FARN) (ix 15 p g x) = if x < 5 then L0 (ix 15 p g x) else if x = 5 then headL hd L (ix 15 p g x) else FARN := fun {p g x} hx => by
    show (if ix 15 p g x % 15 < 5 then _ else _) = _
    rw [ix_mod hx]
  generalize hN : (fun e => if e % 15 < 5 then L0 e else if e % 15 = 5 then headL hd L e else FARN) = N at nx ⊢
  have le0 : ∀ p g, p < 5 → g < 6 → hd p g = true → ∀ e, e < 450 → L p g e ≤ L0 e := fun p g h1 h2 h3 => GB_mono hp h0 (hL p g h1 h2 h3) (fun i hi => by rw [hi]; rfl)
  have Nf : ∀ e, e < 30 * 15 → N e ≤ FARN := fun e he => by
    obtain ⟨p, g, x, h1, h2, h3, rfl⟩ := ix_of (n := 15) (by omega) he
    rw [nx h3]
    split
    · exact h0.1.1 _ he
    · split
      · exact mnf_far _ _
      · exact Nat.le_refl _
  refine ⟨Nf, fun e he hi => ?_, fun r hr => ?_⟩
  · obtain ⟨p, g, x, h1, h2, h3, rfl⟩ := ix_of (n := 15) (by omega) he
    rcases sU_iff.mp hi with h | ⟨p', g', a1, a2, a3, a4⟩
    · have := (bs_x hp h2 h3).mp h
      omega
    · obtain ⟨rfl, rfl, rfl⟩ := ix_inj5 h2 h3 a2 (by omega) a4
      rw [nx (by omega), if_neg (by omega), if_pos rfl]
      refine Nat.le_zero.mp (Nat.le_trans (headL_le h1 h2 a3) (Nat.le_of_eq ?_))
      exact (hL p g h1 h2 a3).1.2.1 _ he (by simp)
  · have hl := rin_lt hr
    have p5 := hp.p5 hl
    have r6 := hp.g6 hl
    have t5 := hp.t5 hl
    refine ⟨fun e0 => ?_, fun e1 x hx => ?_, fun e2 x hx y hy => ?_⟩
    · rw [nx (by omega), if_pos t5]
      exact (h0.1.2.2 r hr).1 e0
    · have a6 := hp.a6 hl (by omega)
      rw [nx hx, nx hx]
      by_cases c : x < 5
      · rw [if_pos c, if_pos c]
        exact (h0.1.2.2 r hr).2.1 e1 x hx
      · rw [if_neg c, if_neg c]
        by_cases c5 : x = 5
        · rw [if_pos c5, if_pos c5]
          rcases headL_ex (hd := hd) (L := L) (e := ix 15 (rt P r) (ra P r) x) with q | ⟨p, g, q1, q2, q3, q⟩
          · rw [q, cp_F]
            exact mnf_far _ _
          · rw [q]
            exact Nat.le_trans (headL_le q1 q2 q3) (((hL p g q1 q2 q3).1.2.2 r hr).2.1 e1 x hx)
        · rw [if_neg c5, if_neg c5, cp_F]
          exact Nat.le_refl _
    · have a6 := hp.a6 hl (by omega)
      have b6 := hp.b6 hl (by omega)
      have bG : rb P r < pG P := (hp.2.2.2.2.1 r hl).2.2.2.2.2.1 (by omega)
      rw [nx hx, nx hy]
      have top : (if x < 5 then L0 (ix 15 (rp P r) (rg P r) x) else if x = 5 then headL hd L (ix 15 (rp P r) (rg P r) x) else FARN) ≤ FARN := by
        split
        · exact h0.1.1 _ (ix_lt p5 r6 hx)
        · split
          · exact mnf_far _ _
          · exact Nat.le_refl _
      by_cases cy : y < 5
      · rw [if_pos cy]
        have eo : onw 15 (Db (pG P)) N y (rb P r) x = N (ix 15 y (rb P r) x) := if_pos cy
        rw [eo, nx hx]
        by_cases c : x < 5
        · rw [if_pos c, if_pos c]
          have := (h0.1.2.2 r hr).2.2 e2 x hx y hy
          rw [show onw 15 (Db (pG P)) L0 y (rb P r) x = L0 (ix 15 y (rb P r) x) from if_pos cy] at this
          exact this
        · rw [if_neg c, if_neg c]
          by_cases c5 : x = 5
          · rw [if_pos c5, if_pos c5]
            rcases headL_ex (hd := hd) (L := L) (e := ix 15 y (rb P r) x) with q | ⟨p, g, q1, q2, q3, q⟩
            · rw [q, cp_F, cp_F]
              exact mnf_far _ _
            · rw [q]
              have := ((hL p g q1 q2 q3).1.2.2 r hr).2.2 e2 x hx y hy
              rw [show onw 15 (Db (pG P)) (L p g) y (rb P r) x = L p g (ix 15 y (rb P r) x) from if_pos cy] at this
              exact Nat.le_trans (headL_le q1 q2 q3) (Nat.le_trans this (cp_mono (Nat.le_refl _) (cp_mono (le0 p g q1 q2 q3 _ (ix_lt t5 a6 hy)) (Nat.le_refl _))))
          · rw [if_neg c5, if_neg c5, cp_F, cp_F]
            exact Nat.le_refl _
      · rw [if_neg cy]
        by_cases cy5 : y = 5
        · rw [if_pos cy5]
          have eo : onw 15 (Db (pG P)) N y (rb P r) x = if Db (pG P) y (rb P r) x then 0 else FARN := if_neg cy
          rw [eo]
          by_cases c5 : x = 5
          · have hd5 : Db (pG P) y (rb P r) x = true := (bs_x hp b6 hx).mpr ⟨cy5, bG, c5⟩
            rw [if_neg (show ¬ x < 5 by omega), if_pos c5, hd5, if_pos rfl]
            rcases headL_ex (hd := hd) (L := L) (e := ix 15 (rt P r) (ra P r) y) with q | ⟨p, g, q1, q2, q3, q⟩
            · rw [q, cp_F', cp_F]
              exact mnf_far _ _
            · rw [q]
              have := ((hL p g q1 q2 q3).1.2.2 r hr).2.2 e2 x hx y hy
              rw [show onw 15 (Db (pG P)) (L p g) y (rb P r) x = if Db (pG P) y (rb P r) x then 0 else FARN from if_neg cy, hd5, if_pos rfl] at this
              exact Nat.le_trans (headL_le q1 q2 q3) this
          · have hd5 : Db (pG P) y (rb P r) x = false := by
              rw [← Bool.not_eq_true, bs_x hp b6 hx]
              exact fun q => c5 q.2.2
            rw [hd5]
            exact Nat.le_trans top (by rw [if_neg (show ¬ false = true by decide), cp_F, cp_F]; exact Nat.le_refl _)
        · rw [if_neg cy5, cp_F', cp_F]
          exact top
/-- the search for many heads tells the least of those for each -/
theorem stuck_val (hp : WP P) {U : Nat → Nat} {L : Nat → Nat → Nat → Nat} (hU : GB P o (sU (pG P) hd) U) (dU : DeE (Db (pG P)) U) (hL : ∀ p g, p < 5 → g < 6 → hd p g = true → GB P o (fun i => bs (pG P) i || i == ix 15 p g 5) (L p g)) (dL : ∀ p g, p < 5 → g < 6 → hd p g = true → DeE (Db (pG P)) (L p g)) {z : Nat → Nat} (hz : ∀ x, z x = if x = 5 ∨ x = 6 then 0 else FARN) {s : Nat → Nat} :
    ∀ H, (∀ i, i < H → s i < 6) → (∀ p g, p < 5 → g < 6 → hd p g = true → ∀ x, x < 15 → val 15 (eC U) z s H x ≤ val 15 (eC (L p g)) z s H x) ∧
      (∀ p g, p < 5 → g < 6 → hd p g = true → ∀ x, 5 ≤ x → x < 15 → val 15 (eC (L p g)) z s H x = val 15 (eC U) z s H x) ∧
      ∀ x, x < 5 → val 15 (eC U) z s H x = FARN ∨ ∃ p g, p < 5 ∧ g < 6 ∧ hd p g = true ∧ val 15 (eC (L p g)) z s H x ≤ val 15 (eC U) z s H x
  | 0, _ => by
    refine ⟨fun _ _ _ _ _ x _ => Nat.le_refl _, fun _ _ _ _ _ _ _ _ => rfl, fun x hx => .inl ?_⟩
    show z x = FARN
    rw [hz, if_neg (by omega)]
  | H + 1, hs => by
    obtain ⟨L0, h0⟩ := GC_exists (n := 15) (I := bs (pG P)) (D := Db (pG P)) (P := P) (o := o) hp (by omega)
    obtain ⟨i1, i2, i3⟩ := stuck_val hp hU dU hL dL hz (s := s) H (fun i hi => hs i (by omega))
    have hg := hs H (by omega)
    have uN := hU.2 _ (headN_clo hp h0 hL)
    have le : ∀ p g, p < 5 → g < 6 → hd p g = true → ∀ e, e < 450 → U e ≤ L p g e := fun p g a b c => GB_mono hp (hL p g a b c) hU (fun i hi => by
      rw [Bool.or_eq_true] at hi
      exact sU_iff.mpr (hi.elim .inl fun q => .inr ⟨p, g, a, b, c, by simpa using q⟩))
    have le0 : ∀ p g, p < 5 → g < 6 → hd p g = true → ∀ e, e < 450 → L p g e ≤ L0 e := fun p g h1 h2 h3 => GB_mono hp h0 (hL p g h1 h2 h3) (fun i hi => by rw [hi]; rfl)
    have fz : ∀ x, z x ≤ FARN := fun x => by
      rw [hz]
      split
      · exact Nat.zero_le _
      · exact Nat.le_refl _
    refine ⟨fun p g a b c x hx => ?_, fun p g a b c x h5 hx => ?_, fun x hx => ?_⟩
    · show mnf (fun y => cp (eC U x (s H) y) (val 15 (eC U) z s H y)) 15 ≤ mnf (fun y => cp (eC (L p g) x (s H) y) (val 15 (eC (L p g)) z s H y)) 15
      refine mnf_ge 15 (mnf_far _ _) (fun y hy => Nat.le_trans (mnf_le _ 15 y hy) (cp_mono ?_ (i1 p g a b c y hy)))
      by_cases c5 : x < 5
      · exact le p g a b c _ (ix_lt c5 hg hy)
      · show U (ix 15 x (s H) y) ≤ L p g (ix 15 x (s H) y)
        rw [dU x _ y (by omega) hx hg hy, dL p g a b c x _ y (by omega) hx hg hy]
        exact Nat.le_refl _
    · show mnf (fun y => cp (eC (L p g) x (s H) y) (val 15 (eC (L p g)) z s H y)) 15 = mnf (fun y => cp (eC U x (s H) y) (val 15 (eC U) z s H y)) 15
      refine mnf_congr 15 (fun y hy => ?_)
      show cp (L p g (ix 15 x (s H) y)) _ = cp (U (ix 15 x (s H) y)) _
      rw [dU x _ y h5 hx hg hy, dL p g a b c x _ y h5 hx hg hy]
      by_cases cy : 5 ≤ y
      · rw [i2 p g a b c y cy hy]
      · have : Db (pG P) x (s H) y = false := by
          rw [← Bool.not_eq_true, bs_x hp hg hy]
          omega
        rw [this, if_neg (by decide), cp_F', cp_F']
    · rcases mnf_ex (fun y => cp (eC U x (s H) y) (val 15 (eC U) z s H y)) 15 with q | ⟨y, hy, q⟩
      · exact .inl q
      · have uy := uN _ (ix_lt (n := 15) hx hg hy)
        rw [ix_mod hy] at uy
        have le2 : ∀ p g, val 15 (eC (L p g)) z s (H + 1) x ≤ cp (L p g (ix 15 x (s H) y)) (val 15 (eC (L p g)) z s H y) := fun p g => mnf_le (fun y => cp (eC (L p g) x (s H) y) (val 15 (eC (L p g)) z s H y)) 15 y hy
        have qe : val 15 (eC U) z s (H + 1) x = cp (U (ix 15 x (s H) y)) (val 15 (eC U) z s H y) := q
        by_cases cy : y < 5
        · rw [if_pos cy] at uy
          rcases i3 y cy with q2 | ⟨p, g, a, b, c, q2⟩
          · left
            rw [qe, q2, cp_F]
          · right
            refine ⟨p, g, a, b, c, ?_⟩
            rw [qe]
            exact Nat.le_trans (le2 p g) (cp_mono (Nat.le_trans (le0 p g a b c _ (ix_lt hx hg hy)) uy) q2)
        · rw [if_neg cy] at uy
          by_cases c5 : y = 5
          · rw [if_pos c5] at uy
            rcases headL_ex (hd := hd) (L := L) (e := ix 15 x (s H) y) with q2 | ⟨p, g, a, b, c, q2⟩
            · left
              rw [q2] at uy
              rw [qe, Nat.le_antisymm (hU.1.1 _ (ix_lt hx hg hy)) uy, cp_F']
            · right
              refine ⟨p, g, a, b, c, ?_⟩
              rw [qe]
              rw [q2] at uy
              exact Nat.le_trans (le2 p g) (cp_mono uy (Nat.le_of_eq (i2 p g a b c y (by omega) hy)))
          · rw [if_neg c5] at uy
            left
            rw [qe, Nat.le_antisymm (hU.1.1 _ (ix_lt hx hg hy)) uy, cp_F']
end STK
