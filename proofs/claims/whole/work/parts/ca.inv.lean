/-! WHAT HOLDS BETWEEN CALLS -/
section INV
variable {P : PG} {o : Nat} {nw : NW}
/-- the reference's own cells stay -/
def RowsM (M M' : MM) : Prop := ∀ a, 86 ≤ a → a < 119 → mI M' a = mI M a ∧ mJ M' a = mJ M a
theorem PgM.cl {M M' : MM} (h : PgM M P o) (e : RowsM M M') : PgM M' P o := by
  unfold PgM at *
  rw [(e 86 (by decide) (by decide)).1, (e 87 (by decide) (by decide)).1, (e 89 (by decide) (by decide)).1, (e 90 (by decide) (by decide)).1]
  exact h
theorem HereM.cl {M M' : MM} (h : HereM M nw) (e : RowsM M M') : HereM M' nw := by
  rcases nw with _ | q
  · show mI M' 86 19 = 0
    rw [(e 86 (by decide) (by decide)).1]
    exact h
  · show mI M' 86 19 = 1 ∧ mI M' 86 20 = nI q.1 ∧ mI M' 86 21 = nI q.2.1 ∧ ∀ i, i < q.2.1 → mI M' 92 i = nI (q.2.2 i)
    rw [(e 86 (by decide) (by decide)).1, (e 92 (by decide) (by decide)).1]
    exact h
theorem CoM.cl {M M' : MM} (h : CoM M P o nw) (w : Wl M') (e : RowsM M M') : CoM M' P o nw := by
  obtain ⟨-, a2, a3, a4, a5, a6, a7⟩ := h
  refine ⟨w, a2, a3, a4.cl e, a5.cl e, a6, ?_⟩
  unfold SzM at *
  rw [(e 96 (by decide) (by decide)).1]
  exact a7
theorem ToldOK.cl {M M' : MM} (h : ToldOK M P o) (e : RowsM M M') : ToldOK M' P o := by
  unfold ToldOK at *
  rw [(e 86 (by decide) (by decide)).1, (e 99 (by decide) (by decide)).2]
  exact h
theorem MaM.cl {M M' : MM} (h : MaM M P o) (e : RowsM M M') : MaM M' P o := by
  unfold MaM MaI BM MT PK at *
  rw [(e 86 (by decide) (by decide)).1, (e 111 (by decide) (by decide)).1, (e 112 (by decide) (by decide)).1, (e 113 (by decide) (by decide)).1]
  exact h
theorem PnB.cl {M M' : MM} {b : Nat} {Q : QG} (h : PnB M b Q) (e : RowsM M M') : PnB M' b Q := by
  unfold PnB at *
  rw [(e 87 (by decide) (by decide)).1, (e 88 (by decide) (by decide)).1, (e 89 (by decide) (by decide)).1, (e 90 (by decide) (by decide)).1]
  exact h
def IM (M : MM) (Q : QG) (o : Nat) (nw : NW) (n : Nat) (A : Nat → NW × Nat) (L : Nat) (B : Nat → Nat) (f1 f2 : Int32) : Prop := ReM M Q.1 o nw Q ∧ ActM M n A ∧ TaM M L B ∧ mI M 86 13 = f1 ∧ mI M 86 14 = f2
def IC (M : MM) (Q : QG) (o : Nat) (nw : NW) (n : Nat) (A : Nat → NW × Nat) (L : Nat) (B : Nat → Nat) (ar : Nat → Nat) (d a : Nat) (f1 f2 : Int32) : Prop := CoC M Q.1 o nw ∧ CostC M Q.1 o ∧ MacC M Q.1 o ar d ∧ NaC M a Q ∧ ActC M n A ∧ TpC M L B ∧ mI M 26 0 = nI 40 ∧ mI M 43 0 = nI 140 ∧ mI M 22 2 = f1 ∧ mI M 22 3 = f2
def mn0 : Nat := 132749
def IZ (M : MM) (d : Nat) : Prop := mK M 119 = (1, 1) ∧ mz M = 120 + 10 * d ∧ mn M + 1920 = mn0 + 30 * RMs d
def Inv (M : MM) : Prop := ∃ Q o nw n A L B ar d a f1 f2, IC M Q o nw n A L B ar d a f1 f2 ∧ IM M Q o nw n A L B f1 f2 ∧ ActW Q.1 n A ∧ IZ M d
variable {Q : QG} {n : Nat} {A : Nat → NW × Nat} {L : Nat} {B : Nat → Nat} {ar : Nat → Nat} {d a : Nat} {f1 f2 : Int32}
theorem IM.cl {M M' : MM} (h : IM M Q o nw n A L B f1 f2) (w : Wl M') (e : RowsM M M') : IM M' Q o nw n A L B f1 f2 := by
  obtain ⟨⟨⟨a1, a2, a3⟩, a4, a5, a6⟩, b, c, d1, d2⟩ := h
  have e86 := (e 86 (by decide) (by decide)).1
  refine ⟨⟨⟨a1.cl w e, a2.cl e, a3.cl e⟩, a4, a5.cl e, a6⟩, ?_, ?_, by rw [e86]; exact d1, by rw [e86]; exact d2⟩
  · unfold ActM at *
    rw [e86, (e 94 (by decide) (by decide)).1]
    exact b
  · unfold TaM at *
    rw [e86, (e 91 (by decide) (by decide)).1]
    exact c
/-- what a call at the class leaves, seen from outside -/
def CF (M : MM) (d : Nat) (M' : MM) (d' : Nat) : Prop := RowsM M M' ∧ (mK M 119 = (1, 1) → 119 < mz M → mK M' 119 = (1, 1)) ∧ mz M' + 10 * d = mz M + 10 * d' ∧ mn M' + 30 * RMs d = mn M + 30 * RMs d'
theorem IZ.cf {M M' : MM} {d' : Nat} (h : IZ M d) (c : CF M d M' d') : IZ M' d' := by
  obtain ⟨h1, h2, h3⟩ := h
  obtain ⟨-, c1, c2, c3⟩ := c
  refine ⟨c1 h1 (by omega), by omega, by omega⟩
def lo86 (Is : List Nat) : Bool := Is.all fun a => decide (a < 86)
theorem lo86_n {Is : List Nat} (h : lo86 Is = true) {a : Nat} (ha : 86 ≤ a) : a ∉ Is := fun q => by
  have := List.all_eq_true.mp h a q
  rw [decide_eq_true_eq] at this
  omega
theorem Sm.cf {M M' : MM} {Is Js : List Nat} (s : Sm Is Js M M') (hi : lo86 Is = true) (hj : lo86 Js = true) (d : Nat) : CF M d M' d := ⟨fun a h1 h2 => ⟨s.i a (lo86_n hi h1), s.j a (lo86_n hj h1)⟩, fun h _ => by rw [s.k]; exact h, by rw [s.z], by rw [s.n]⟩
theorem SmH.cf {M M' : MM} {Is Js : List Nat} (s : SmH Is Js M M') (hi : lo86 Is = true) (hj : lo86 Js = true) (d : Nat) : CF M d M' d := ⟨fun a h1 h2 => ⟨s.i a (lo86_n hi h1), s.j a (lo86_n hj h1)⟩, fun h _ => by rw [s.2.1]; exact h, by rw [s.2.2.1], by rw [s.2.2.2.1]⟩
theorem SmR.cf {M M' : MM} {Is Js : List Nat} (s : SmR Is Js M M') (hi : lo86 Is = true) (hj : lo86 Js = true) (d : Nat) : CF M d M' d := ⟨fun a h1 h2 => ⟨s.2.2.2.2.1 a (lo86_n hi h1), s.2.2.2.2.2 a (lo86_n hj h1)⟩, fun h _ => by rw [s.2.1]; exact h, by rw [s.2.2.1], by rw [s.2.2.2.1]⟩
theorem FrM.cf {M M' : MM} {d' : Nat} (s : FrM M d M' d') : CF M d M' d' := ⟨fun a h1 h2 => ⟨s.1.i a h2 (lo86_n (by decide) h1), s.1.j a h2 (lo86_n (by decide) h1)⟩, fun h q => by rw [s.1.2.1 119 (.inr q)]; exact h, s.2.2.2.1, s.2.2.2.2⟩
/-- what a call at the class leaves of its own -/
def CR (M M' : MM) : Prop := (∀ x, x ∈ [2, 3, 22, 26, 29, 31] → mI M' x = mI M x) ∧ (∀ x, x ∈ [4, 10, 12, 13, 19, 21] → mI M' x = mI M x) ∧ mI M' 43 0 = mI M 43 0 ∧ (∀ x, x ∈ [6, 8, 15, 17] → mJ M' x = mJ M x) ∧ ∀ k, mR M' 1 k = mR M 1 k
theorem PnC.cr {M M' : MM} (h : PnC M a Q) (hi : ∀ x, x ∈ [4, 10, 12, 13, 19, 21] → mI M' x = mI M x) (hj : ∀ x, x ∈ [6, 8, 15, 17] → mJ M' x = mJ M x) : PnC M' a Q := by
  have a4 := h.1.1
  unfold PnC PgC at *
  rcases a4 with e | e <;> subst e
  · rw [hi 4 (by decide), hi (4 + 6) (by decide), hi (4 + 8) (by decide), hj (4 + 2) (by decide), hj (4 + 4) (by decide)]
    exact h
  · rw [hi 13 (by decide), hi (13 + 6) (by decide), hi (13 + 8) (by decide), hj (13 + 2) (by decide), hj (13 + 4) (by decide)]
    exact h
theorem NaC.cr {M M' : MM} (h : NaC M a Q) (hi : ∀ x, x ∈ [4, 10, 12, 13, 19, 21] → mI M' x = mI M x) (hj : ∀ x, x ∈ [6, 8, 15, 17] → mJ M' x = mJ M x) (hr : ∀ k, mR M' 1 k = mR M 1 k) : NaC M' a Q := ⟨by rw [hr]; exact h.1, by rw [hr]; exact h.2.1, h.2.2.1.cr hi hj, h.2.2.2⟩
theorem IC.cr {M M' : MM} {ar' : Nat → Nat} {d' : Nat} (h : IC M Q o nw n A L B ar d a f1 f2) (c : CR M M') (h1 : CoC M' Q.1 o nw) (h2 : CostC M' Q.1 o) (h3 : MacC M' Q.1 o ar' d') : IC M' Q o nw n A L B ar' d' a f1 f2 := by
  obtain ⟨-, -, -, a4, a5, a6, a7, a8, a9, a10⟩ := h
  obtain ⟨c1, c2, c3, c4, c5⟩ := c
  refine ⟨h1, h2, h3, a4.cr c2 c4 c5, ?_, ?_, by rw [c1 26 (by decide)]; exact a7, by rw [c3]; exact a8, by rw [c1 22 (by decide)]; exact a9, by rw [c1 22 (by decide)]; exact a10⟩
  · unfold ActC at *
    rw [c1 29 (by decide), c1 31 (by decide)]
    exact a5
  · unfold TpC at *
    rw [c1 2 (by decide), c1 3 (by decide)]
    exact a6
def crI (Is : List Nat) : Bool := avd [2, 3, 22, 26, 29, 31, 4, 10, 12, 13, 19, 21] Is
def crJ (Js : List Nat) : Bool := avd [6, 8, 15, 17] Js
theorem crI_1 {Is : List Nat} (h : crI Is = true) {x : Nat} (hx : x ∈ [2, 3, 22, 26, 29, 31]) : x ∉ Is := avd_n h (List.mem_append_left [4, 10, 12, 13, 19, 21] hx)
theorem crI_2 {Is : List Nat} (h : crI Is = true) {x : Nat} (hx : x ∈ [4, 10, 12, 13, 19, 21]) : x ∉ Is := avd_n h (List.mem_append_right [2, 3, 22, 26, 29, 31] hx)
theorem Sm.cr {M M' : MM} {Is Js : List Nat} (s : Sm Is Js M M') (hi : crI Is = true) (hj : crJ Js = true) (h43 : mI M' 43 0 = mI M 43 0) : CR M M' := ⟨fun x hx => s.i x (crI_1 hi hx), fun x hx => s.i x (crI_2 hi hx), h43, fun x hx => s.j x (avd_n hj hx), fun k => by rw [s.r]⟩
theorem SmH.cr {M M' : MM} {Is Js : List Nat} (s : SmH Is Js M M') (hi : crI Is = true) (hj : crJ Js = true) (h43 : mI M' 43 0 = mI M 43 0) : CR M M' := ⟨fun x hx => s.i x (crI_1 hi hx), fun x hx => s.i x (crI_2 hi hx), h43, fun x hx => s.j x (avd_n hj hx), fun k => s.1 1 k (fun z => absurd z.1 (by decide))⟩
theorem FrM.cr {M M' : MM} {d' : Nat} (s : FrM M d M' d') : CR M M' := by
  have l1 : ∀ x, x ∈ [2, 3, 22, 26, 29, 31] → x < 119 ∧ x ∉ 1 :: IX := by decide
  have l2 : ∀ x, x ∈ [4, 10, 12, 13, 19, 21] → x < 119 ∧ x ∉ 1 :: IX := by decide
  have l3 : ∀ x, x ∈ [6, 8, 15, 17] → x < 119 ∧ x ∉ 34 :: 36 :: JX := by decide
  exact ⟨fun x hx => s.1.i x (l1 x hx).1 (l1 x hx).2, fun x hx => s.1.i x (l2 x hx).1 (l2 x hx).2, by rw [s.1.i 43 (by decide) (by decide)], fun x hx => s.1.j x (l3 x hx).1 (l3 x hx).2, fun k => s.1.1 1 k (by decide) (fun z => absurd z.1 (by decide)) (fun z => absurd z.1 (by decide))⟩
theorem MacC.smH {M M' : MM} {ar : Nat → Nat} {d : Nat} (h : MacC M P o ar d) {Is Js : List Nat} (s : SmH Is Js M M') (h14 : mI M' 1 14 = mI M 1 14) (hi : okM Is = true) : MacC M' P o ar d := by
  obtain ⟨ly, z⟩ := h
  have e61 : mI M' 61 = mI M 61 := s.i 61 (okM_n ly hi (b := 66) (by decide)).2
  have r0 : ∀ b k, b ≠ 48 → mR M' b k = mR M b k := fun b k hb => s.1 b k (fun z => hb z.1)
  have n48 : ∀ b, b ∈ dI ++ dL → b ≠ 48 := by decide
  have lg := ly.1
  have lg' : LG M' ar (ln d) := by
    obtain ⟨g1, g2, g3, g4, g5, g6, g7, g8⟩ := lg
    refine ⟨g1.smH s, by rw [s.2.2.1]; exact g2, fun b hb => by rw [r0 b 0 (n48 b hb)]; exact g3 b hb, g4, fun b hb => by rw [s.2.2.1]; exact g5 b hb, fun b hb => by rw [s.2.1]; exact g6 b hb, fun b hb => by rw [s.2.1]; exact g7 b hb, by rw [r0 61 5 (by decide), r0 61 6 (by decide)]; exact g8⟩
  have ly' : LY M' ar d := ⟨lg', by rw [e61]; exact ly.2.1, ly.2.2⟩
  refine ⟨ly', ?_⟩
  rw [h14]
  rcases z with z | ⟨z, y⟩
  · exact .inl z
  · exact .inr ⟨z, y.row ly' e61 (r0 61 5 (by decide)) (fun b hb => s.i _ (okM_n ly hi hb).1)⟩
theorem MacC.smR {M M' : MM} {ar : Nat → Nat} {d : Nat} (h : MacC M P o ar d) {Is Js : List Nat} (s : SmR Is Js M M') (h14 : mI M' 1 14 = mI M 1 14) (hi : okM Is = true) : MacC M' P o ar d := by
  obtain ⟨ly, z⟩ := h
  have e61 : mI M' 61 = mI M 61 := s.2.2.2.2.1 61 (okM_n ly hi (b := 66) (by decide)).2
  have r0 : ∀ b k, b ≠ 22 → mR M' b k = mR M b k := fun b k hb => s.1 b k (fun z => hb z.1)
  have n48 : ∀ b, b ∈ dI ++ dL → b ≠ 22 := by decide
  have lg := ly.1
  have lg' : LG M' ar (ln d) := by
    obtain ⟨g1, g2, g3, g4, g5, g6, g7, g8⟩ := lg
    refine ⟨g1.smR s, by rw [s.2.2.1]; exact g2, fun b hb => by rw [r0 b 0 (n48 b hb)]; exact g3 b hb, g4, fun b hb => by rw [s.2.2.1]; exact g5 b hb, fun b hb => by rw [s.2.1]; exact g6 b hb, fun b hb => by rw [s.2.1]; exact g7 b hb, by rw [r0 61 5 (by decide), r0 61 6 (by decide)]; exact g8⟩
  have ly' : LY M' ar d := ⟨lg', by rw [e61]; exact ly.2.1, ly.2.2⟩
  refine ⟨ly', ?_⟩
  rw [h14]
  rcases z with z | ⟨z, y⟩
  · exact .inl z
  · exact .inr ⟨z, y.row ly' e61 (r0 61 5 (by decide)) (fun b hb => s.2.2.2.2.1 _ (okM_n ly hi hb).1)⟩
/-- a call at the reference leaves the class -/
def hiM (Is : List Nat) : Bool := Is.all fun a => decide (86 ≤ a) && decide (a < 119)
theorem hiM_n {Is : List Nat} (h : hiM Is = true) {a : Nat} (ha : a < 86) : a ∉ Is := fun q => by
  have := List.all_eq_true.mp h a q
  rw [Bool.and_eq_true, decide_eq_true_eq] at this
  omega
theorem hiM_av {Is : List Nat} (h : hiM Is = true) {l : List Nat} (hl : lo86 l = true) : avd l Is = true := List.all_eq_true.mpr fun x hx => by
  have := List.all_eq_true.mp hl x hx
  rw [decide_eq_true_eq] at this
  have n := hiM_n h this
  cases c : Is.elem x with
  | false => rfl
  | true => exact absurd (List.mem_of_elem_eq_true c) n
theorem hiM_ok {Is : List Nat} (h : hiM Is = true) : okM Is = true := List.all_eq_true.mpr fun x hx => by
  have := List.all_eq_true.mp h x hx
  rw [Bool.and_eq_true, decide_eq_true_eq, decide_eq_true_eq] at this
  rw [Bool.and_eq_true, decide_eq_true_eq]
  refine ⟨this.2, ?_⟩
  cases c : (61 :: dA).elem x with
  | false => rfl
  | true =>
    have l : ∀ x, x ∈ 61 :: dA → x < 86 := by decide
    have := l x (List.mem_of_elem_eq_true c)
    omega
theorem IC.md {M M' : MM} (h : IC M Q o nw n A L B ar d a f1 f2) {Is Js : List Nat} (s : Sm Is Js M M') (hi : hiM Is = true) (hj : hiM Js = true) : IC M' Q o nw n A L B ar d a f1 f2 := by
  have e1 : mI M' 1 = mI M 1 := s.i 1 (hiM_n hi (by decide))
  refine h.cr ⟨fun x hx => s.i x (hiM_n hi ?_), fun x hx => s.i x (hiM_n hi ?_), by rw [s.i 43 (hiM_n hi (by decide))], fun x hx => s.j x (hiM_n hj ?_), fun k => by rw [s.r]⟩ (h.1.sm s (by rw [e1]) (hiM_av hi (by decide))) (h.2.1.sm s (by rw [e1]) (hiM_av hj (by decide))) (h.2.2.1.sm s (by rw [e1]) (hiM_ok hi))
  · revert x; decide
  · revert x; decide
  · revert x; decide
theorem IZ.md {M M' : MM} (h : IZ M d) {Is Js : List Nat} (s : Sm Is Js M M') : IZ M' d := ⟨by rw [s.k]; exact h.1, by rw [s.z]; exact h.2.1, by rw [s.n]; exact h.2.2⟩
/-- a question at the reference -/
theorem IM.q {M M' : MM} (h : IM M Q o nw n A L B f1 f2) {Is Js : List Nat} (s : Sm Is Js M M') (hi : avd [87, 88, 89, 90, 91, 94] Is = true) (hf : ∀ j, j = 7 ∨ j = 13 ∨ j = 14 ∨ j = 23 → mI M' 86 j = mI M 86 j) (h1 : CoM M' Q.1 o nw) (h2 : ToldOK M' Q.1 o) (h3 : MaM M' Q.1 o) : IM M' Q o nw n A L B f1 f2 := by
  obtain ⟨⟨-, a4, a5, a6⟩, b, c, d1, d2⟩ := h
  refine ⟨⟨⟨h1, h2, h3⟩, a4, a5.sm s (List.all_eq_true.mpr fun x hx => List.all_eq_true.mp hi x (by revert x; decide)), a6⟩, b.sm s (hf 23 (by omega)) (avd_n hi (by decide)), ?_, (hf 13 (by omega)).trans d1, (hf 14 (by omega)).trans d2⟩
  unfold TaM at *
  rw [hf 7 (by omega), s.i 91 (avd_n hi (by decide))]
  exact c
theorem IM.th {M : MM} (h : IM M Q o nw n A L B f1 f2) (v : Int32) : IM (sI M 86 0 v) Q o nw n A L B f1 f2 := h.q th_sm (by decide) (fun j hj => th_f (by omega)) (h.1.1.1.th v) (h.1.1.2.1.th v) (h.1.1.2.2.th v)
end INV
