/-! CALLS THAT THROW: the three of the class -/
section THW
theorem hasState_e {M : MM} {a : Nat} {x : Int32} (hK : (mK M a).1 = 7 + 3) : f7_hasState M a x = some (bI (!decide (x < 0) && !decide (mI M a 4 ≤ x)), M) := by
  unfold f7_hasState
  by_cases h : x < 0
  · rw [if_pos h, decide_eq_true h]
    rfl
  · rw [if_neg h, decide_eq_false h]
    unfold aO
    rw [if_pos hK]
    by_cases h2 : mI M a 4 ≤ x
    · rw [if_pos h2, decide_eq_true h2]
      rfl
    · rw [if_neg h2, decide_eq_false h2]
      rfl
theorem hasSign_e {M : MM} {a : Nat} {x : Int32} (hK : (mK M a).1 = 7 + 3) : f7_hasSign M a x = some (bI (!decide (x < 0) && !decide (mI M a 5 ≤ x)), M) := by
  unfold f7_hasSign
  by_cases h : x < 0
  · rw [if_pos h, decide_eq_true h]
    rfl
  · rw [if_neg h, decide_eq_false h]
    unfold aO
    rw [if_pos hK]
    by_cases h2 : mI M a 5 ≤ x
    · rw [if_pos h2, decide_eq_true h2]
      rfl
    · rw [if_neg h2, decide_eq_false h2]
      rfl
variable {i : MI} {pc : Nat} {lv : List (Nat × AV)} {st : List AV} {M : MM}
theorem run_hS (M : MM) (x : Int32) (hK : (mK M (mR M 1 10)).1 = 7 + 3) : Run i7_hasState [vr (mR M 1 10), vi x] M (some (vi (bI (okS M x))), M) := T7_hasState M (mR M 1 10) x (bI (okS M x), M) (hasState_e hK)
theorem run_hG (M : MM) (x : Int32) (hK : (mK M (mR M 1 10)).1 = 7 + 3) : Run i7_hasSign [vr (mR M 1 10), vi x] M (some (vi (bI (okG M x))), M) := T7_hasSign M (mR M 1 10) x (bI (okG M x), M) (hasSign_e hK)
theorem TX_ask {k : Fin 4} {idx : Nat} {j : MI} {x r : Int32} (t : Nat) (d0 : decode (ib i) pc = .ok (.aload_n 0, 1)) (d1 : decode (ib i) (pc + 1) = .ok (.getfield 19, 3)) (d4 : decode (ib i) (pc + 4) = .ok (.iload_n k, 1)) (d5 : decode (ib i) (pc + 5) = .ok (.invokevirtual idx, 3)) (h0 : lv[0]? = some (0, vr 1)) (hk : lv[t]? = some ((k : Nat), vi x)) (hf : FG (iy i).cls 19 11 10 2) (hc : CVw (iy i).cls idx j 1 7) (hr : RMw i j) (hW : WF M) (hO : OK M lv []) (k1 : (mK M 1).1 = 11 + 3) (kP : (mK M (mR M 1 10)).1 = 7 + 3) (hrun : Run j [vr (mR M 1 10), vi x] M (some (vi r), M)) (kk : TX i (pc + 8) lv [vi r] M) : TX i pc lv [] M := by
  refine TX_pure (PS_aloadn 0 d0 h0) ?_
  refine TX_getR d1 hf k1 hW ?_
  refine TX_pure (PS_iloadn t d4 hk) ?_
  exact TX_callV (as := [vi x]) (st := []) d5 hc hr rfl (Nat.zero_le _) kP hW ⟨hO.1, fun v hv => by
    rcases List.mem_cons.mp hv with e | e
    · rw [e]
      trivial
    · rw [List.mem_singleton.mp e]
      exact hW.2.2.2.1 1 10⟩ hrun kk
theorem bIx_t {b : Bool} (h : ¬ bI b = 0) : b = true := by
  cases b with
  | true => rfl
  | false => exact absurd rfl h
theorem bIx_f {b : Bool} (h : bI b = 0) : b = false := by
  cases b with
  | false => rfl
  | true => exact absurd h (by decide)
theorem ddT_pops : AllD (ib i11_pops) [(0, .aload_n 0, 1), (1, .getfield 19, 3), (4, .iload_n 1, 1), (5, .invokevirtual 231, 3), (8, .ifCond .eq 25, 3), (11, .aload_n 0, 1), (12, .getfield 19, 3), (15, .iload_n 2, 1), (16, .invokevirtual 234, 3), (19, .ifCond .eq 14, 3), (22, .aload_n 0, 1), (23, .getfield 19, 3), (26, .iload_n 3, 1), (27, .invokevirtual 231, 3), (30, .ifCond .ne 13, 3), (33, .new 237, 3), (36, .dup, 1), (37, .ldc 239, 2), (39, .invokespecial 241, 3), (42, .athrow, 1)] := allD_of (by decide +kernel)
theorem ddT_rises : AllD (ib i11_rises) [(0, .aload_n 0, 1), (1, .getfield 19, 3), (4, .iload_n 1, 1), (5, .invokevirtual 231, 3), (8, .ifCond .eq 14, 3), (11, .aload_n 0, 1), (12, .getfield 19, 3), (15, .iload_n 2, 1), (16, .invokevirtual 234, 3), (19, .ifCond .ne 13, 3), (22, .new 237, 3), (25, .dup, 1), (26, .ldc 239, 2), (28, .invokespecial 241, 3), (31, .athrow, 1)] := allD_of (by decide +kernel)
theorem ddT_lasts : AllD (ib i11_lasts) [(0, .aload_n 0, 1), (1, .getfield 19, 3), (4, .iload_n 1, 1), (5, .invokevirtual 231, 3), (8, .ifCond .eq 14, 3), (11, .aload_n 0, 1), (12, .getfield 19, 3), (15, .iload_n 2, 1), (16, .invokevirtual 234, 3), (19, .ifCond .ne 13, 3), (22, .new 237, 3), (25, .dup, 1), (26, .ldc 239, 2), (28, .invokespecial 241, 3), (31, .athrow, 1)] := allD_of (by decide +kernel)
theorem ok_l4 {M : MM} {l : List Int32} (h : 1 < mz M) : ∀ (k : Nat) (q : Nat × AV), q ∈ (0, vr 1) :: (l.zipIdx k).map (fun z => (z.2, vi z.1)) → okv M q.2 := fun k q hq => by
  rcases List.mem_cons.mp hq with e | e
  · rw [e]
    exact h
  · obtain ⟨z, -, rfl⟩ := List.mem_map.mp e
    trivial
theorem TX_pops (hW : WF M) (k1 : (mK M 1).1 = 11 + 3) (kP : (mK M (mR M 1 10)).1 = 7 + 3) (x y z : Int32) (hno : okP M x y z = false) : TX i11_pops 0 [(0, vr 1), (1, vi x), (2, vi y), (3, vi z)] [] M := by
  obtain ⟨d0, d1, d4, d5, d8, d11, d12, d15, d16, d19, d22, d23, d26, d27, d30, d33, d36, d37, d39, d42, -⟩ := ddT_pops
  have hz : 1 < mz M := (hW.alive (a := 1) (by rw [k1]; decide)).2
  have hO : OK M [(0, vr 1), (1, vi x), (2, vi y), (3, vi z)] [] := ⟨ok_l4 (l := [x, y, z]) hz 1, fun v hv => by cases hv⟩
  have T : TX i11_pops 33 [(0, vr 1), (1, vi x), (2, vi y), (3, vi z)] [] M := TX_throw rfl d33 d36 d37 d39 d42 (Nat.le_of_ble_eq_true rfl) (Nat.le_of_ble_eq_true rfl)
  refine TX_ask 1 d0 d1 d4 d5 rfl rfl fg_x11_19 cv_x11_231 ⟨by decide, by decide⟩ hW hO k1 kP (run_hS M x kP) ?_
  refine TX_ifeq (t := 33) d8 rfl (fun _ => T) (fun hx => ?_)
  refine TX_ask 2 d11 d12 d15 d16 rfl rfl fg_x11_19 cv_x11_234 ⟨by decide, by decide⟩ hW hO k1 kP (run_hG M y kP) ?_
  refine TX_ifeq (t := 33) d19 rfl (fun _ => T) (fun hy => ?_)
  refine TX_ask 3 d22 d23 d26 d27 rfl rfl fg_x11_19 cv_x11_231 ⟨by decide, by decide⟩ hW hO k1 kP (run_hS M z kP) ?_
  refine TX_ifne (t := 43) d30 rfl (fun hz => ?_) (fun _ => T)
  unfold okP at hno
  rw [bIx_t hx, bIx_t hy, bIx_t hz] at hno
  exact absurd hno (by decide)
theorem TX_rises (hW : WF M) (k1 : (mK M 1).1 = 11 + 3) (kP : (mK M (mR M 1 10)).1 = 7 + 3) (x y : Int32) (hno : okH M x y = false) : TX i11_rises 0 [(0, vr 1), (1, vi x), (2, vi y)] [] M := by
  obtain ⟨d0, d1, d4, d5, d8, d11, d12, d15, d16, d19, d22, d25, d26, d28, d31, -⟩ := ddT_rises
  have hz : 1 < mz M := (hW.alive (a := 1) (by rw [k1]; decide)).2
  have hO : OK M [(0, vr 1), (1, vi x), (2, vi y)] [] := ⟨ok_l4 (l := [x, y]) hz 1, fun v hv => by cases hv⟩
  have T : TX i11_rises 22 [(0, vr 1), (1, vi x), (2, vi y)] [] M := TX_throw rfl d22 d25 d26 d28 d31 (Nat.le_of_ble_eq_true rfl) (Nat.le_of_ble_eq_true rfl)
  refine TX_ask 1 d0 d1 d4 d5 rfl rfl fg_x11_19 cv_x11_231 ⟨by decide, by decide⟩ hW hO k1 kP (run_hS M x kP) ?_
  refine TX_ifeq (t := 22) d8 rfl (fun _ => T) (fun hx => ?_)
  refine TX_ask 2 d11 d12 d15 d16 rfl rfl fg_x11_19 cv_x11_234 ⟨by decide, by decide⟩ hW hO k1 kP (run_hG M y kP) ?_
  refine TX_ifne (t := 32) d19 rfl (fun hy => ?_) (fun _ => T)
  unfold okH at hno
  rw [bIx_t hx, bIx_t hy] at hno
  exact absurd hno (by decide)
theorem TX_lasts (hW : WF M) (k1 : (mK M 1).1 = 11 + 3) (kP : (mK M (mR M 1 10)).1 = 7 + 3) (x y : Int32) (hno : okH M x y = false) : TX i11_lasts 0 [(0, vr 1), (1, vi x), (2, vi y)] [] M := by
  obtain ⟨d0, d1, d4, d5, d8, d11, d12, d15, d16, d19, d22, d25, d26, d28, d31, -⟩ := ddT_lasts
  have hz : 1 < mz M := (hW.alive (a := 1) (by rw [k1]; decide)).2
  have hO : OK M [(0, vr 1), (1, vi x), (2, vi y)] [] := ⟨ok_l4 (l := [x, y]) hz 1, fun v hv => by cases hv⟩
  have T : TX i11_lasts 22 [(0, vr 1), (1, vi x), (2, vi y)] [] M := TX_throw rfl d22 d25 d26 d28 d31 (Nat.le_of_ble_eq_true rfl) (Nat.le_of_ble_eq_true rfl)
  refine TX_ask 1 d0 d1 d4 d5 rfl rfl fg_x11_19 cv_x11_231 ⟨by decide, by decide⟩ hW hO k1 kP (run_hS M x kP) ?_
  refine TX_ifeq (t := 22) d8 rfl (fun _ => T) (fun hx => ?_)
  refine TX_ask 2 d11 d12 d15 d16 rfl rfl fg_x11_19 cv_x11_234 ⟨by decide, by decide⟩ hW hO k1 kP (run_hG M y kP) ?_
  refine TX_ifne (t := 32) d19 rfl (fun hy => ?_) (fun _ => T)
  unfold okH at hno
  rw [bIx_t hx, bIx_t hy] at hno
  exact absurd hno (by decide)
end THW
