/-! THE START -/
def m00 : MM := (fun _ _ => 0, fun _ _ => 0, fun _ _ => 0, fun _ => (1000, 0), 1, 0)
theorem ini_1 : (f11_init (nw m00 14 15) 1).isSome = true := by decide +kernel
def ini1 : MM := (f11_init (nw m00 14 15) 1).get ini_1
theorem ini_1e : f11_init (nw m00 14 15) 1 = some ini1 := (Option.some_get ini_1).symm
theorem ini_2 : (f12_init (nw ini1 15 55) 86).isSome = true := by decide +kernel
def ini2 : MM := (f12_init (nw ini1 15 55) 86).get ini_2
theorem ini_2e : f12_init (nw ini1 15 55) 86 = some ini2 := (Option.some_get ini_2).symm
def ini3 : MM := nw ini2 1 1
theorem ini_z : mz ini1 = 86 ∧ mz ini2 = 119 ∧ mz ini3 = 120 ∧ mn ini3 = 132749 := by decide +kernel
theorem ini_k : ((List.range 119).all fun a => decide (mK ini3 a = KK a)) = true := by decide +kernel
theorem ini_r : (RRl.all fun q => decide (mR ini3 q.1 q.2.1 = q.2.2)) = true := by decide +kernel
set_option maxRecDepth 200000 in
theorem ini_34 : mJ ini3 34 = fun _ => 0 := rfl
set_option maxRecDepth 200000 in
theorem ini_36 : mJ ini3 36 = fun _ => 0 := rfl
set_option maxRecDepth 200000 in
theorem ini_41 : mJ ini3 41 = fun _ => 0 := rfl
theorem ini_i : ([(1, 12, 0), (1, 13, 0), (1, 14, 0), (23, 0, 40), (23, 2, -1), (23, 3, 0), (26, 0, 40), (43, 0, 140), (22, 2, 0), (22, 3, -1), (29, 1, 0), (29, 2, 0), (2, 2, 0), (4, 4, 0), (4, 5, 0), (4, 6, 0), (4, 7, 0), (61, 12, 64), (86, 5, 0), (86, 7, 0), (86, 13, 0), (86, 14, -1), (86, 19, 0), (86, 23, 0), (86, 31, 0), (86, 49, 0), (87, 0, 0), (87, 1, 0), (87, 2, 0), (87, 3, 0), (96, 0, 0), (96, 1, 0), (96, 2, 0), (96, 3, 0)] : List (Nat × Nat × Int32)).all (fun q => decide (mI ini3 q.1 q.2.1 = q.2.2)) = true := by decide +kernel
theorem ini_d : mR ini3 1 10 = 4 ∧ mR ini3 1 11 = 13 ∧ mR ini3 61 5 = 72 ∧ mR ini3 61 6 = 74 ∧ mK ini3 119 = (1, 1) := by decide +kernel
theorem ini_g : ((dI ++ dL).all fun b => decide (mR ini3 b 0 = b + 1) && decide (KK (b + 1) = (if dI.elem b then 0 else 1, ln 0 b))) = true := by decide +kernel
theorem ini_v {a k : Nat} {v : Int32} (h : ([(1, 12, 0), (1, 13, 0), (1, 14, 0), (23, 0, 40), (23, 2, -1), (23, 3, 0), (26, 0, 40), (43, 0, 140), (22, 2, 0), (22, 3, -1), (29, 1, 0), (29, 2, 0), (2, 2, 0), (4, 4, 0), (4, 5, 0), (4, 6, 0), (4, 7, 0), (61, 12, 64), (86, 5, 0), (86, 7, 0), (86, 13, 0), (86, 14, -1), (86, 19, 0), (86, 23, 0), (86, 31, 0), (86, 49, 0), (87, 0, 0), (87, 1, 0), (87, 2, 0), (87, 3, 0), (96, 0, 0), (96, 1, 0), (96, 2, 0), (96, 3, 0)] : List (Nat × Nat × Int32)).elem (a, k, v) = true) : mI ini3 a k = v := by
  have := List.all_eq_true.mp ini_i (a, k, v) (List.mem_of_elem_eq_true h)
  exact of_decide_eq_true this
theorem ini_w : Wl ini3 := ⟨fun a ha => of_decide_eq_true (List.all_eq_true.mp ini_k a (List.mem_range.mpr ha)), fun q hq => of_decide_eq_true (List.all_eq_true.mp ini_r q hq)⟩
theorem ini_ly : LY ini3 (fun b => b + 1) 0 := by
  have g : ∀ b, b ∈ dI ++ dL → mR ini3 b 0 = b + 1 ∧ KK (b + 1) = (if dI.elem b then 0 else 1, ln 0 b) := fun b hb => by
    have := List.all_eq_true.mp ini_g b hb
    rw [Bool.and_eq_true, decide_eq_true_eq, decide_eq_true_eq] at this
    exact this
  have lt : ∀ b, b ∈ dI ++ dL → b + 1 < 119 := by decide
  refine ⟨⟨ini_w, by rw [ini_z.2.2.1]; decide, fun b hb => (g b hb).1, fun b _ b' _ e => by
    have e' : b + 1 = b' + 1 := e
    omega, fun b _ => .inl rfl, fun b hb => ?_, fun b hb => ?_, .inl ⟨ini_d.2.2.1, ini_d.2.2.2.1⟩⟩, ini_v rfl, Nat.zero_le _⟩
  · rw [ini_w.1 _ (lt b (List.mem_append_left _ hb)), (g b (List.mem_append_left _ hb)).2, List.elem_eq_true_of_mem hb]
    rfl
  · have n : dI.elem b = false := by revert b; decide
    rw [ini_w.1 _ (lt b (List.mem_append_right _ hb)), (g b (List.mem_append_right _ hb)).2, n]
    rfl
theorem ini_inv : Inv ini3 := by
  have w := ini_w
  have z0 : mJ ini3 34 = lR (fun _ => 0) ∧ mJ ini3 36 = lR (fun _ => 0) ∧ mJ ini3 41 = lR (fun _ => 0) := ⟨ini_34, ini_36, ini_41⟩
  have pg : PgC ini3 4 QZ.1 := ⟨.inl rfl, ini_v rfl, ini_v rfl, ini_v rfl, ini_v rfl, fun r hr => absurd hr (Nat.not_lt_zero _), fun k hk => absurd hk (Nat.not_lt_zero _)⟩
  have pn : PnC ini3 4 QZ := ⟨pg, fun p hp => absurd hp (Nat.not_lt_zero _), fun p hp => absurd hp (Nat.not_lt_zero _)⟩
  have r10 := ini_d.1
  have r11 := ini_d.2.1
  have pb : PnB ini3 0 QZ := ⟨by decide, ini_v rfl, ini_v rfl, ini_v rfl, ini_v rfl, fun p hp => absurd hp (Nat.not_lt_zero _), fun p hp => absurd hp (Nat.not_lt_zero _), fun p hp => absurd hp (Nat.not_lt_zero _), fun p hp => absurd hp (Nat.not_lt_zero _)⟩
  have aw : ActW QZ.1 0 (fun _ => (none, 0)) := fun j hj => absurd hj (Nat.not_lt_zero j)
  refine ⟨QZ, 0, none, 0, fun _ => (none, 0), 0, fun _ => 0, fun b => b + 1, 0, 4, 0, -1, ⟨⟨w, QZ_w.1, by decide, ⟨4, r10, r11, pg⟩, ini_v rfl, ⟨ini_v rfl, ini_v rfl, ini_v rfl⟩, trivial⟩, ⟨.inl (ini_v rfl), ⟨fun _ => 0, fun _ => 0, z0.1, z0.2.1, fun i _ => Nat.zero_le _, fun e => ?_⟩, fun _ => 0, z0.2.2, fun i _ => Nat.zero_le _⟩, ⟨ini_ly, .inl (ini_v rfl)⟩, ⟨r10, r11, pn, QZ_w⟩, ⟨0, by decide, ini_v rfl, ini_v rfl, by decide, fun j hj => absurd hj (Nat.not_lt_zero j)⟩, ⟨ini_v rfl, Nat.zero_le _, fun i hi => absurd hi (Nat.not_lt_zero i)⟩, ini_v rfl, ini_v rfl, ini_v rfl, ini_v rfl⟩, ⟨⟨⟨⟨w, QZ_w.1, by decide, ⟨ini_v rfl, ini_v rfl, ini_v rfl, ini_v rfl, ini_v rfl, fun r hr => absurd hr (Nat.not_lt_zero _), fun k hk => absurd hk (Nat.not_lt_zero _)⟩, ini_v rfl, trivial, fun k hk => ⟨0, by decide, ?_⟩⟩, ⟨.inl (ini_v rfl), fun e => ?_⟩, .inl (ini_v rfl)⟩, rfl, pb, QZ_w⟩, ⟨ini_v rfl, by decide, fun j hj => absurd hj (Nat.not_lt_zero j)⟩, ⟨ini_v rfl, Nat.zero_le _, fun i hi => absurd hi (Nat.not_lt_zero i)⟩, ini_v rfl, ini_v rfl⟩, aw, ini_d.2.2.2.2, ini_z.2.2.1, ?_⟩
  · rw [ini_v (a := 1) (k := 13) (v := 0) rfl] at e
    exact absurd e (by decide)
  · rcases (show k = 0 ∨ k = 1 ∨ k = 2 ∨ k = 3 by omega) with e | e | e | e <;> subst e <;> exact ini_v rfl
  · rw [ini_v (a := 86) (k := 31) (v := 0) rfl] at e
    exact absurd e (by decide)
  · rw [ini_z.2.2.2]
    rfl
theorem m00_wf : WF m00 := ⟨Nat.le_refl 1, rfl, fun _ _ => rfl, fun _ _ => Nat.zero_lt_one, fun r c h => by
  have h' : 1000 = c + 3 := h
  intro q hq
  have e : vwCl[c]? = none := List.getElem?_eq_none (by show 13 ≤ c; omega)
  rw [e] at hq
  cases hq⟩
