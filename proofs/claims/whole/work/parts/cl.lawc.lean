/-! THE LAW: calls -/
section LAWC
variable {κ : LC} {L : Nat} {xs : Nat → Int32} {pc k n : Nat} {lv : List (Nat × AV)} {st : List AV} {M : MM}
/-- behind a call at the law -/
theorem law_back {p : Program} {l : Launch} {e : Env} {s : State} {m : MethodId} {below : List Frame} {meth : Method} {c : Code} {b : Nat} {H : Heap} {locs : List Loc} {ls : Array Slot} {cells slots : Nat} {G : CG} {ad : Nat → Nat} {st0 : List Value} {x : Option AV × MM} {mc ms : Nat} {a : Array Value}
    (hw : World G ad (fun q => s.heap.size ≤ q) M s H locs) (hl : lv_has ls 8 (lv.map (lm ad) ++ [(0, .ref b)])) (hO : OK M lv st) (g1 : Mono M x.2)
    (run : va_Run p l e room_1 s m #[Value.ref b] below meth c H locs cells slots mc ms (F0 m pc ls st0) (st.map (rv ad)) (QC G ad (va_A (wsOf G ad M) H.size) (mz M) x a) (va_A (wsOf G ad M) H.size))
    (kk : ∀ (H' : Heap) (locs' : List Loc) (ad' : Nat → Nat), World G ad' (fun q => s.heap.size ≤ q) x.2 s H' locs' → lv_has ls 8 (lv.map (lm ad') ++ [(0, .ref b)]) → W p l e room_1 s m #[Value.ref b] below meth c H' locs' (cells + mc) (slots + ms) (lw_Z below #[Value.ref b] s) (F0 m (pc + 3) ls ((x.1.toList ++ st).map (rv ad')))) :
    W p l e room_1 s m #[Value.ref b] below meth c H locs cells slots (lw_Z below #[Value.ref b] s) (F0 m pc ls st0) := by
  intro T hT XX
  obtain ⟨v, st₀, t, T', Ls, h0, X', hL, t1, t2, ⟨⟨ad', k1, k2, k3, k4⟩, hz, hkeep⟩, hgo⟩ := run T hT XX
  cases k2
  rw [h0] at hz hkeep
  have hf : ∀ q, va_A (wsOf G ad M) H.size q → s.heap.size ≤ q := fun q h => by
    rcases h with ⟨j, e, h⟩ | h
    · exact hw.2.2.1.2 j _ h
    · exact hw.2.2.2.2 q (Nat.le_trans hw.2.2.2.1.1 h)
  have hst2 : (x.1.map (rv ad')).toList ++ st.map (rv ad) = (x.1.toList ++ st).map (rv ad') := by
    rw [List.map_append, st_ag k1 hO.2]
    cases x.1 <;> rfl
  have hS1 : va_S (fun q => s.heap.size ≤ q) s.heap T'.heap (locs ++ Ls) := by
    have hS := hw.2.2.2.1
    refine ⟨Nat.le_trans hS.1 (by rw [t1]; exact hz), fun q h1 h2 => by rw [t1, hkeep q (Nat.lt_of_lt_of_le h1 hS.1) (fun z => h2 (hf q z))]; exact hS.2.1 q h1 h2, fun q hq => ?_⟩
    rcases List.mem_append.mp hq with h | h
    · exact hS.2.2 q h
    · exact hf _ (hL q h)
  have hk2 := kk T'.heap (locs ++ Ls) ad' ⟨hw.1, by rw [t1]; exact k3, k4.weaken (fun k q _ h => hf q.1 h), hS1, hw.2.2.2.2⟩ (by rw [lm_ag k1 hO.1]; exact hl)
  obtain ⟨t3, b1, b2⟩ := hk2 T' rfl X'
  rw [← hst2] at b1
  exact ⟨t3, hgo t3 b1, b2⟩
theorem LX_callV (C0 : LA κ L xs) {idx ci b0 : Nat} {j : MI} {as st1 : List AV} {x : Option AV × MM} (hd : decode code pc = .ok (.invokevirtual idx, 3)) (hc : CVw "CallStepsLaw" idx j as.length ci) (hr : ifr j + 1 ≤ 11 ∧ 8 + (iL j + 11) + ilo j ≤ 450) (he : as.reverse ++ vr b0 :: st = st1) (h8 : ct st ≤ 8) (hK : (mK M b0).1 = ci + 3) (hW : WF M) (hO : OK M lv st1) (hrun : Run j (vr b0 :: as) M x) (hc1 : mz x.2 - 1 + k ≤ 601024) (hs1 : mn x.2 + n ≤ 7293034)
    (kk : Good M x → OK x.2 lv (x.1.toList ++ st) → LX κ (pc + 3) lv (x.1.toList ++ st) x.2 k n) : LX κ pc lv st1 M k n := by
  subst he
  have hOa : ∀ v ∈ vr b0 :: as, okv M v := fun v hv => hO.2 v (by
    rcases List.mem_cons.mp hv with e | e
    · subst e
      exact List.mem_append_right _ List.mem_cons_self
    · exact List.mem_append_left _ (List.mem_reverse.mpr e))
  have hO1 : OK M lv st := ⟨hO.1, fun v hv => hO.2 v (List.mem_append_right _ (List.mem_cons_of_mem _ hv))⟩
  obtain ⟨hg, hM⟩ := hrun hW hOa
  have m1 := hg.1.1
  have m2 := hg.1.2
  have hO2 := OK_le m1 hO1
  have hO3 : OK x.2 lv (x.1.toList ++ st) := ⟨hO2.1, fun v hv => by
    rcases List.mem_append.mp hv with h | h
    · exact hg.2.2 v (by simpa using h)
    · exact hO2.2 v h⟩
  have kk' := kk hg hO3
  obtain ⟨p, l, e, s, m, below, meth, c, b⟩ := κ
  intro H locs ls cells slots G ad hw hl hcs hsl
  have S := sit_of C0
  obtain ⟨cb, w1, w2, w3⟩ := hc
  obtain ⟨a0, a1⟩ := hW.alive (a := b0) (by rw [hK]; intro z; have z : ci = 997 := by omega
                                            subst z; cases w3)
  have hws := ws_get (G := G) (ad := ad) a0 a1
  rw [cO_obj hK] at hws
  obtain ⟨q3, f1, f2⟩ := Option.map_eq_some_iff.mp w3
  have hrecv := va_recv hw.1.1 hw.2.1 f1 hws
  rw [f2] at hrecv
  have hst : ((as.reverse ++ vr b0 :: st).map (rv ad)) = (as.map (rv ad)).reverse ++ .ref (ad b0) :: st.map (rv ad) := by
    rw [List.map_append, List.map_reverse, List.map_cons]
    show _ ++ rr ad b0 :: _ = _
    rw [rr_ne a0]
  have hargs : (vr b0 :: as).map (rv ad) = .ref (ad b0) :: as.map (rv ad) := by
    rw [List.map_cons]
    show rr ad b0 :: _ = _
    rw [rr_ne a0]
  have hp : ∀ U : State, U.heap = H → s.WarmedH U.vm → PreM G ad M (vr b0 :: as) H.size ((vr b0 :: as).map (rv ad)).toArray U := fun U hU hWm => ⟨rfl, by rw [hU], hw.1.moved hWm, by rw [hU]; exact hw.2.1, hw.2.2.1.weaken (fun _ _ _ _ => trivial)⟩
  have hz1 := hW.1
  have e1 : cells + (mz x.2 - mz M) = mz x.2 - 1 + k := by omega
  have e2 : slots + (mn x.2 - mn M) = mn x.2 + n := by omega
  refine law_back hw hl hO1 hg.1 (va_runV (As := as.map (rv ad)) (rest := st.map (rv ad)) (fix_of S) (hM l G ad H.size) ⟨cb_of S cb hr, S.2.2.2.2.1 _ w1, S.2.2.2.2.1 _ w2⟩ ⟨PreM.blind, hrecv, fun U hU hWm => by rw [← hargs]; exact hp U hU hWm⟩ rfl (by simp) hl.1 hst (lv_room (by rw [ct_sum]; exact h8)) hd ⟨by rw [e1]; exact hc1, by rw [e2]; exact hs1⟩) (fun H' locs' ad' hw' hl' => ?_)
  exact kk' H' locs' ls _ _ G ad' hw' hl' e1 e2
theorem LX_callI (C0 : LA κ L xs) {idx b0 : Nat} {j : MI} {st1 : List AV} {x : Option AV × MM} (hd : decode code pc = .ok (.invokespecial idx, 3)) (hc : CIw "CallStepsLaw" idx j 0) (hr : ifr j + 1 ≤ 11 ∧ 8 + (iL j + 11) + ilo j ≤ 450) (he : vr b0 :: st = st1) (h8 : ct st ≤ 8) (a0 : 0 < b0) (hW : WF M) (hO : OK M lv st1) (hrun : Run j [vr b0] M x) (hc1 : mz x.2 - 1 + k ≤ 601024) (hs1 : mn x.2 + n ≤ 7293034)
    (kk : Good M x → OK x.2 lv (x.1.toList ++ st) → LX κ (pc + 3) lv (x.1.toList ++ st) x.2 k n) : LX κ pc lv st1 M k n := by
  subst he
  have hOa : ∀ v ∈ [vr b0], okv M v := fun v hv => hO.2 v (by
    rw [List.mem_singleton.mp hv]
    exact List.mem_cons_self)
  have hO1 : OK M lv st := ⟨hO.1, fun v hv => hO.2 v (List.mem_cons_of_mem _ hv)⟩
  obtain ⟨hg, hM⟩ := hrun hW hOa
  have m1 := hg.1.1
  have m2 := hg.1.2
  have hO2 := OK_le m1 hO1
  have hO3 : OK x.2 lv (x.1.toList ++ st) := ⟨hO2.1, fun v hv => by
    rcases List.mem_append.mp hv with h | h
    · exact hg.2.2 v (by simpa using h)
    · exact hO2.2 v h⟩
  have kk' := kk hg hO3
  obtain ⟨p, l, e, s, m, below, meth, c, b⟩ := κ
  intro H locs ls cells slots G ad hw hl hcs hsl
  have S := sit_of C0
  obtain ⟨cb, w0, w1, w2⟩ := hc
  have hst : ((vr b0 :: st).map (rv ad)) = ([] : List Value).reverse ++ .ref (ad b0) :: st.map (rv ad) := by
    rw [List.map_cons]
    show rr ad b0 :: _ = _
    rw [rr_ne a0]
    rfl
  have hargs : [vr b0].map (rv ad) = [.ref (ad b0)] := by
    show [rr ad b0] = _
    rw [rr_ne a0]
  have hp : ∀ U : State, U.heap = H → s.WarmedH U.vm → PreM G ad M [vr b0] H.size ([vr b0].map (rv ad)).toArray U := fun U hU hWm => ⟨rfl, by rw [hU], hw.1.moved hWm, by rw [hU]; exact hw.2.1, hw.2.2.1.weaken (fun _ _ _ _ => trivial)⟩
  have hz1 := hW.1
  have e1 : cells + (mz x.2 - mz M) = mz x.2 - 1 + k := by omega
  have e2 : slots + (mn x.2 - mn M) = mn x.2 + n := by omega
  have cb2 := cb_of (mc := mz x.2 - mz M) (ms := mn x.2 - mn M) S cb hr
  rw [w2] at cb2
  refine law_back hw hl hO1 hg.1 (va_runI (As := []) (rest := st.map (rv ad)) (fix_of S) (hM l G ad H.size) ⟨cb2, w0, S.2.2.2.2.1 _ w1⟩ ⟨PreM.blind, fun U hU hWm => by rw [← hargs]; exact hp U hU hWm⟩ rfl (by simp) hl.1 hst (lv_room (by rw [ct_sum]; exact h8)) hd ⟨by rw [e1]; exact hc1, by rw [e2]; exact hs1⟩) (fun H' locs' ad' hw' hl' => ?_)
  exact kk' H' locs' ls _ _ G ad' hw' hl' e1 e2
theorem LX_new (C0 : LA κ L xs) {idx ci N : Nat} (hd : decode code pc = .ok (.new idx, 3)) (hn : NC "CallStepsLaw" idx ci N) (hW : WF M) (hO : OK M lv st) (hc1 : mz M + k ≤ 601024) (hs1 : mn M + N + n ≤ 7293034) (kk : WF (nw M (ci + 3) N) → LX κ (pc + 3) lv (vr (mz M) :: st) (nw M (ci + 3) N) k n) : LX κ pc lv st M k n := by
  obtain ⟨C, T, ty0, f1, f2, f3, f4, f5, f6, f7⟩ := hn
  have hci : ci < 997 := by
    rcases Nat.lt_or_ge ci 997 with q | q
    · exact q
    · have : vwCl[ci]? = none := List.getElem?_eq_none (by show 13 ≤ ci; omega)
      rw [this] at f1
      cases f1
  have hcl : ∀ c, ci + 3 = c + 3 → ∀ q, vwCl[c]? = some q → N = q.2.2 := fun c h q hq => by
    have e : c = ci := by omega
    subst e
    rw [f1] at hq
    cases hq
    rfl
  have kk' := kk (WF_nw hW (by omega) hcl)
  obtain ⟨p, l, e, s, m, below, meth, c, b⟩ := κ
  intro H locs ls cells slots G ad hw hl hcs hsl
  have S := sit_of C0
  have hz1 := hW.1
  have hcO : ∀ q, cO G (upx ad (mz M) q) (nw M (ci + 3) N) (mz M) = .inr (ci, (List.range N).map (fV ad (nw M (ci + 3) N) (mz M) ci)) := fun q => by
    rw [cO_obj (by rw [mK_nw]), mK_nw]
    show Sum.inr (ci, (List.range N).map _) = _
    rw [show fV (upx ad (mz M) q) (nw M (ci + 3) N) (mz M) ci = fV ad (nw M (ci + 3) N) (mz M) ci from funext fun k => by
      unfold fV
      rw [mR_nw]
      rfl]
  refine va_new (ci := ci) (fs := (List.range N).map (fV ad (nw M (ci + 3) N) (mz M) ci)) (C := C) (T := T) (N := N) S.1 S.2.1 S.2.2.2.2.1 f5 ty0 f6 S.2.2.2.1 (S.2.2.2.2.1 _ f2) (S.2.2.2.2.1 _ f3) (S.2.2.2.2.1 _ f4) hw.1.1 hw.2.1 hw.2.2.1 hw.2.2.2.1 hw.2.2.2.2 f1 (fun j hj => ?_) (by show cells + 1 ≤ 601024; omega) (by show slots + N ≤ 7293034; omega) hd fun q H1 hP hD hS => ?_
  · rw [f7 j hj]
    unfold vp_V
    rw [List.getD_eq_getElem?_getD, fs_get _ hj]
    show _ = fV ad (nw M (ci + 3) N) (mz M) ci j
    unfold fV
    rw [mI_nw, mJ_nw, mR_nw]
    rfl
  · rw [← hcO q, ws_push hW] at hP hD
    have ha : ∀ j, j < mz M → upx ad (mz M) q j = ad j := fun j hj => upx_ne _ _ (Nat.ne_of_lt hj)
    have hk2 := kk' H1 locs ls (cells + 1) (slots + N) G (upx ad (mz M) q) ⟨hw.1, hP, hD, hS, hw.2.2.2.2⟩ (by rw [lm_ag ha hO.1]; exact hl) (by show cells + 1 = mz M + 1 - 1 + k; omega) (by show slots + N = mn M + N + n; omega)
    have e : (vr (mz M) :: st).map (rv (upx ad (mz M) q)) = .ref q :: st.map (rv ad) := by
      rw [List.map_cons, st_ag ha hO.2]
      show rr (upx ad (mz M) q) (mz M) :: _ = _
      rw [rr_ne hW.1, upx_same]
    rw [e] at hk2
    exact hk2
theorem LX_newJ (C0 : LA κ L xs) {N : Nat} (hN : N ≤ 60000000) (hd : decode code pc = .ok (.newarray .long, 2)) (harr : Cond.arrayClass .long ∈ gT) (hW : WF M) (hO : OK M lv st) (hc1 : mz M + k ≤ 601024) (hs1 : mn M + N + n ≤ 7293034) (kk : WF (nw M 1 N) → LX κ (pc + 2) lv (vr (mz M) :: st) (nw M 1 N) k n) : LX κ pc lv (vi (nI N) :: st) M k n := by
  have kk' := kk (WF_nw hW (by decide) (fun c h => by omega))
  obtain ⟨p, l, e, s, m, below, meth, c, b⟩ := κ
  intro H locs ls cells slots G ad hw hl hcs hsl
  have S := sit_of C0
  have hz1 := hW.1
  have eN : (nI N).toNatClampNeg = N := nI_clamp (by omega)
  have hcO : ∀ q, cO G (upx ad (mz M) q) (nw M 1 N) (mz M) = .inl (G.2.2.1, N, .inr (.inl (fun _ => 0))) := fun q => by
    rw [cO_long (by rw [mK_nw]), mK_nw, mJ_nw]
  refine va_newa (atype := .long) (ty := .long) (a0 := (N, .inr (.inl (fun _ => 0)))) (N' := N) S.1 S.2.1 (S.2.2.2.2.1 _ harr) rfl hw.1.1 hw.2.1 hw.2.2.1 hw.2.2.2.1 hw.2.2.2.2 (fun cA => rfl) (nI_pos (by omega)) eN (by show N * 8 ≤ 536870912; omega) (by show cells + 1 ≤ 601024; omega) (by show slots + N ≤ 7293034; omega) hd fun q cA H1 hK hP hD hS => ?_
  have e : cA = G.2.2.1 := cls_of (Or.inr (Or.inl rfl)) hw.1.1 (k := 1) rfl (hK.2 3 _ rfl).2
  subst e
  rw [← hcO q, ws_push hW] at hP hD
  have ha : ∀ j, j < mz M → upx ad (mz M) q j = ad j := fun j hj => upx_ne _ _ (Nat.ne_of_lt hj)
  have hk2 := kk' H1 locs ls (cells + 1) (slots + N) G (upx ad (mz M) q) ⟨hw.1, hP, hD, hS, hw.2.2.2.2⟩ (by rw [lm_ag ha hO.1]; exact hl) (by show cells + 1 = mz M + 1 - 1 + k; omega) (by show slots + N = mn M + N + n; omega)
  have e : (vr (mz M) :: st).map (rv (upx ad (mz M) q)) = .ref q :: st.map (rv ad) := by
    rw [List.map_cons, st_ag ha hO.2]
    show rr (upx ad (mz M) q) (mz M) :: _ = _
    rw [rr_ne hW.1, upx_same]
  rw [e] at hk2
  exact hk2
end LAWC
