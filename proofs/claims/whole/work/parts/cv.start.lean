/-! THE LAW: from its entry -/
section STRT
theorem ini_n : mn ini1 ≤ 132749 ∧ mn ini2 ≤ 132749 := by decide +kernel
theorem ddL_s : AllD code [(0, .new 8, 3), (3, .dup, 1), (4, .invokespecial 22, 3), (7, .astore_n 1, 1), (8, .new 23, 3), (11, .dup, 1), (12, .invokespecial 25, 3), (15, .astore_n 2, 1), (16, .iconst 1, 1), (17, .newarray .long, 2), (19, .astore_n 3, 1), (20, .iconst 0, 1), (21, .istore 4, 2)] := allD_of (by decide +kernel)
theorem arJ_in : Cond.arrayClass .long ∈ gT := List.mem_filter.mpr ⟨by decide +kernel, rfl⟩
theorem ok_11 {M : MM} {a : Nat} {lv : List (Nat × AV)} (h : a < mz M) (hl : ∀ q ∈ lv, okv M q.2) : OK M lv [vr a, vr a] := ⟨hl, fun v hv => by
  rcases List.mem_cons.mp hv with e | e
  · rw [e]
    exact h
  · rw [List.mem_singleton.mp e]
    exact h⟩
variable {κ : LC} {L : Nat} {xs : Nat → Int32}
theorem law_start (C0 : LA κ L xs) (hE : LE κ) (hL : L ≤ 3072) : LX κ 0 [] [] m00 0 0 := by
  obtain ⟨d0, d3, d4, d7, d8, d11, d12, d15, d16, d17, d19, d20, d21, -⟩ := ddL_s
  obtain ⟨z1, z2, z3, z4⟩ := ini_z
  obtain ⟨y1, y2⟩ := ini_n
  have o0 : OK m00 [] [] := ⟨fun _ h => (by cases h), fun _ h => (by cases h)⟩
  refine LX_new C0 d0 nc_jCallStepsLaw_8 m00_wf o0 (show 1 + 0 ≤ 601024 from Nat.le_of_ble_eq_true rfl) (show 0 + 15 + 0 ≤ 7293034 from Nat.le_of_ble_eq_true rfl) (fun w1 => ?_)
  show LX κ 3 [] [vr 1] (nw m00 14 15) 0 0
  refine LX_dup C0 d3 ?_
  have R1 : Run i11_init [vr 1] (nw m00 14 15) (Lv ini1) := T11_init (nw m00 14 15) 1 _ ini_1e
  refine LX_callI C0 (j := i11_init) (st := [vr 1]) (x := Lv ini1) d4 ci_jCallStepsLaw_22 ⟨by decide, by decide⟩ rfl (Nat.le_of_ble_eq_true rfl) (by decide) w1 (ok_11 (show 1 < 2 by decide) (fun _ h => by cases h)) R1 (show mz ini1 - 1 + 0 ≤ 601024 by omega) (show mn ini1 + 0 ≤ 7293034 by omega) (fun g1 _ => ?_)
  have w2 : WF ini1 := g1.2.1
  show LX κ 7 [] [vr 1] ini1 0 0
  refine LX_astore C0 (lv' := [(1, vr 1)]) d7 (fun ad b => rfl) ?_
  have l1 : ∀ q ∈ ([(1, vr 1)] : List (Nat × AV)), okv ini1 q.2 := fun q hq => by
    rw [List.mem_singleton.mp hq]
    exact (show 1 < mz ini1 by omega)
  refine LX_new C0 d8 nc_jCallStepsLaw_23 w2 ⟨l1, fun _ h => by cases h⟩ (show mz ini1 + 0 ≤ 601024 by omega) (show mn ini1 + 55 + 0 ≤ 7293034 by omega) (fun w3 => ?_)
  rw [z1]
  show LX κ 11 [(1, vr 1)] [vr 86] (nw ini1 15 55) 0 0
  refine LX_dup C0 d11 ?_
  have R2 : Run i12_init [vr 86] (nw ini1 15 55) (Lv ini2) := T12_init (nw ini1 15 55) 86 _ ini_2e
  have zz : mz (nw ini1 15 55) = 87 := by rw [mz_nw, z1]
  refine LX_callI C0 (j := i12_init) (st := [vr 86]) (x := Lv ini2) d12 ci_jCallStepsLaw_25 ⟨by decide, by decide⟩ rfl (Nat.le_of_ble_eq_true rfl) (by decide) w3 (ok_11 (by rw [zz]; decide) (fun q hq => okv_le (by rw [zz, z1]; decide) (l1 q hq))) R2 (show mz ini2 - 1 + 0 ≤ 601024 by omega) (show mn ini2 + 0 ≤ 7293034 by omega) (fun g2 _ => ?_)
  have w4 : WF ini2 := g2.2.1
  show LX κ 15 [(1, vr 1)] [vr 86] ini2 0 0
  refine LX_astore C0 (lv' := [(2, vr 86), (1, vr 1)]) d15 (fun ad b => rfl) ?_
  refine LX_iconst C0 (x := nI 1) d16 rfl ?_
  have l2 : ∀ q ∈ ([(2, vr 86), (1, vr 1)] : List (Nat × AV)), okv ini2 q.2 := fun q hq => by
    simp only [List.mem_cons, List.not_mem_nil, or_false] at hq
    rcases hq with e | e
    · rw [e]
      exact (show 86 < mz ini2 by omega)
    · rw [e]
      exact (show 1 < mz ini2 by omega)
  refine LX_newJ C0 (N := 1) (by decide) d17 arJ_in w4 ⟨l2, fun _ h => by cases h⟩ (show mz ini2 + 0 ≤ 601024 by omega) (show mn ini2 + 1 + 0 ≤ 7293034 by omega) (fun w5 => ?_)
  rw [z2]
  show LX κ 19 [(2, vr 86), (1, vr 1)] [vr 119] ini3 0 0
  refine LX_astore C0 (lv' := [(3, vr 119), (2, vr 86), (1, vr 1)]) d19 (fun ad b => rfl) ?_
  refine LX_iconst C0 (x := nI 0) d20 rfl ?_
  refine LX_istore C0 (q := 4) (lv' := lv0 0) d21 (by decide) (by decide) (fun ad b => rfl) ?_
  exact law_loop C0 hE hL L 0 0 0 ini3 (by omega) (by omega) (by omega) (by omega) w5 ini_inv
theorem ar_of {s : State} {args : Array Value} {ty : FieldType} (h : (Cond.arrayClass ty).before args s = true) : ∃ cA : ClassId, ArrOfT s cA ty ∧ s.vm.findClass ("[" ++ ty.toString) = some cA := by
  obtain ⟨cA, kA, comp, h1, h2, h3⟩ := Cond.arrayClass_spec h
  exact ⟨cA, fun n z => ⟨fun k h => (by cases h), kA, h2, comp, h3⟩, h1⟩
theorem kn_all {s : State} {args : Array Value} (hts : ∀ w ∈ lw_tbl, w.before args s = true) (k : Nat) : ∃ (cC : ClassId) (iS : Nat → Nat), ∀ q, vwCl[k]? = some q → u_Kn s q.1 q.2.1 q.2.2 cC iS := by
  match k with
  | 0 =>
    obtain ⟨c0, i0, h⟩ := u_known (C := RX0) (T := TX0) (N := 3) (n := 3) hts inX0 (hts (.instantiable RX0 3) (by decide +kernel))
    exact ⟨c0, i0, fun q hq => by cases hq; exact h⟩
  | 1 =>
    obtain ⟨c0, i0, h⟩ := u_known (C := RX1) (T := TX1) (N := 2) (n := 2) hts inX1 (hts (.instantiable RX1 2) (by decide +kernel))
    exact ⟨c0, i0, fun q hq => by cases hq; exact h⟩
  | 2 =>
    obtain ⟨c0, i0, h⟩ := u_known (C := RX2) (T := TX2) (N := 9) (n := 9) hts inX2 (hts (.instantiable RX2 9) (by decide +kernel))
    exact ⟨c0, i0, fun q hq => by cases hq; exact h⟩
  | 3 =>
    obtain ⟨c0, i0, h⟩ := u_known (C := RX3) (T := TX3) (N := 1) (n := 1) hts inX3 (hts (.instantiable RX3 1) (by decide +kernel))
    exact ⟨c0, i0, fun q hq => by cases hq; exact h⟩
  | 4 =>
    obtain ⟨c0, i0, h⟩ := u_known (C := RX4) (T := TX4) (N := 1) (n := 1) hts inX4 (hts (.instantiable RX4 1) (by decide +kernel))
    exact ⟨c0, i0, fun q hq => by cases hq; exact h⟩
  | 5 =>
    obtain ⟨c0, i0, h⟩ := u_known (C := RX5) (T := TX5) (N := 18) (n := 18) hts inX5 (hts (.instantiable RX5 18) (by decide +kernel))
    exact ⟨c0, i0, fun q hq => by cases hq; exact h⟩
  | 6 =>
    obtain ⟨c0, i0, h⟩ := u_known (C := RX6) (T := TX6) (N := 4) (n := 4) hts inX6 (hts (.instantiable RX6 4) (by decide +kernel))
    exact ⟨c0, i0, fun q hq => by cases hq; exact h⟩
  | 7 =>
    obtain ⟨c0, i0, h⟩ := u_known (C := RX7) (T := TX7) (N := 8) (n := 8) hts inX7 (hts (.instantiable RX7 8) (by decide +kernel))
    exact ⟨c0, i0, fun q hq => by cases hq; exact h⟩
  | 8 =>
    obtain ⟨c0, i0, h⟩ := u_known (C := RX8) (T := TX8) (N := 4) (n := 4) hts inX8 (hts (.instantiable RX8 4) (by decide +kernel))
    exact ⟨c0, i0, fun q hq => by cases hq; exact h⟩
  | 9 =>
    obtain ⟨c0, i0, h⟩ := u_known (C := RX9) (T := TX9) (N := 7) (n := 7) hts inX9 (hts (.instantiable RX9 7) (by decide +kernel))
    exact ⟨c0, i0, fun q hq => by cases hq; exact h⟩
  | 10 =>
    obtain ⟨c0, i0, h⟩ := u_known (C := RX10) (T := TX10) (N := 4) (n := 4) hts inX10 (hts (.instantiable RX10 4) (by decide +kernel))
    exact ⟨c0, i0, fun q hq => by cases hq; exact h⟩
  | 11 =>
    obtain ⟨c0, i0, h⟩ := u_known (C := RX11) (T := TX11) (N := 15) (n := 15) hts inX11 (hts (.instantiable RX11 15) (by decide +kernel))
    exact ⟨c0, i0, fun q hq => by cases hq; exact h⟩
  | 12 =>
    obtain ⟨c0, i0, h⟩ := u_known (C := RX12) (T := TX12) (N := 55) (n := 55) hts inX12 (hts (.instantiable RX12 55) (by decide +kernel))
    exact ⟨c0, i0, fun q hq => by cases hq; exact h⟩
  | k + 13 => exact ⟨(0 : Nat), fun _ => 0, fun q hq => by simp [vwCl] at hq⟩
theorem ex_all {s : State} {b : Nat} (hts : ∀ w ∈ lw_tbl, w.before #[Value.ref b] s = true) (hgv : (Jvm.Cond.and given_1 narrow_1).before #[Value.ref b] s = true) : ∃ sa, ExH (fun q => s.heap.size ≤ q) sa s := by
  obtain ⟨sa, -, -, -, hsa, -⟩ := Cond.exactly_spec (t := .string "CallSteps" 239) (cls := "java/lang/String") (flat_of_before _ hgv _ (by decide +kernel))
  have hA : ∀ a : Nat, a < s.heap.size → ¬ (fun q => s.heap.size ≤ q) a := fun a h => Nat.not_le.mpr h
  refine ⟨sa, fun w hw => va_Nw.of (exW_t w hw) (hts w (exL_in w (List.mem_filter.mp hw).1)), ?_, ?_, vk_R.of (hts (.stringRef "CallSteps" 239 "no such state or sign") (by decide +kernel)) hsa⟩
  · exact vx_Zqof (hts (.laysStatic Bundle.tN "UNASSIGNED_STACK" Bundle.steD) (by decide +kernel)) (hts (.initialized Bundle.tN) (by decide +kernel)) (flat_of_before _ hgv _ (by decide +kernel)) hA
  · exact vx_Zqof (hts (.laysStatic Bundle.tN "SUPPRESSED_SENTINEL" Bundle.listD) (by decide +kernel)) (hts (.initialized Bundle.tN) (by decide +kernel)) (flat_of_before _ hgv _ (by decide +kernel)) hA
theorem fl_off {l : Launch} (h : l.flags = flags0) : l.stackTraces = false := by
  unfold Launch.stackTraces
  rw [h]
  decide +kernel
end STRT
/-- YOUR PART: from the entry, for every script of at most 3072 ints, the law comes to its end with true ('hflags': the launch's flags, for a law that throws: no stack traces) -/
theorem whole_start {p : Program} {e : Env} {s : State} {m : MethodId} {below : List Frame} {meth : Method} {c : Code} (l : Launch) (hflags : l.flags = flags0) {b L : Nat} {xs : Nat → Int32} (hL : L ≤ 3072) (C0 : lw_At p s m meth c b L xs) : W p l e room_1 s m #[Value.ref b] below meth c s.heap [] 0 0 (lw_Z below #[Value.ref b] s) (entryFrame m ([Value.ref b] : List Value).toArray 8) := by
  have C1 : LA (p, l, e, s, m, below, meth, c, b) L xs := C0
  obtain ⟨hx, hb, hr, hml, hown, hts, hX, hbl, hlocks, hgv⟩ := C0
  have hE : LE (p, l, e, s, m, below, meth, c, b) := ⟨fl_off hflags, ex_all hts hgv⟩
  have key := law_start C1 hE hL
  obtain ⟨cI, aI, nI9⟩ := ar_of (hts (Cond.arrayClass .int) (by decide +kernel))
  obtain ⟨cJ9, aJ, nJ9⟩ := ar_of (hts (Cond.arrayClass .long) (by decide +kernel))
  obtain ⟨cZ, aZ, nZ9⟩ := ar_of (hts (Cond.arrayClass .boolean) (by decide +kernel))
  have hl := lv_entry ([.ref b]) (n := 8) (Nat.le_of_ble_eq_true rfl)
  rw [lg_entry_eq]
  generalize (lg_sl ([.ref b]) ++ List.replicate (8 - (lg_sl ([.ref b])).length) Slot.unset).toArray = ls at hl ⊢
  have hl : lv_has ls 8 [(0, .ref b)] := hl
  have hK : va_K (fun k => Classical.choose (kn_all hts k), fun k => Classical.choose (Classical.choose_spec (kn_all hts k))) vwCl [(cI, .int), (cJ9, .long), (cZ, .boolean)] s := by
    refine ⟨fun k q hq => Classical.choose_spec (Classical.choose_spec (kn_all hts k)) q hq, fun k q hq => ?_⟩
    match k, hq with
    | 0, hq => cases hq; exact ⟨aI, nI9⟩
    | 1, hq => cases hq; exact ⟨aJ, nJ9⟩
    | 2, hq => cases hq; exact ⟨aZ, nZ9⟩
    | k + 3, hq => simp at hq
  have hN : ∀ w ∈ nestW, va_Nw w s := fun w hw => by
    have h1 := (List.mem_filter.mp hw).2
    have h2 := hts w (List.mem_filter.mp hw).1
    cases w <;> first | exact va_Nw.of rfl h2 | (simp at h1; done)
  exact key s.heap [] ls 0 0 ((fun k => Classical.choose (kn_all hts k), fun k => Classical.choose (Classical.choose_spec (kn_all hts k))), cI, cJ9, cZ) (fun _ => 0) ⟨⟨hK, hN⟩, fun k q h => by simp [wsOf, mz, m00] at h, ⟨fun i j p q h => by simp [wsOf, mz, m00] at h, fun k q h => by simp [wsOf, mz, m00] at h⟩, va_S.rf, fun _ h => h⟩ hl rfl rfl
