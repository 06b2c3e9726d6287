/-! CALLS THAT THROW: the law's own three, which catch -/
section THL
def hl_pops : MI := (⟨"CallStepsLaw", "pops", "(LCallSteps;III[J)I"⟩, method_3_code, 6, (Option.some Jvm.ClassFile.FieldType.int), 8, 210)
def hl_rises : MI := (⟨"CallStepsLaw", "rises", "(LCallSteps;II[J)I"⟩, method_4_code, 5, (Option.some Jvm.ClassFile.FieldType.int), 8, 210)
def hl_lasts : MI := (⟨"CallStepsLaw", "lasts", "(LCallSteps;II[J)I"⟩, method_5_code, 5, (Option.some Jvm.ClassFile.FieldType.int), 8, 210)
def wsH (i : MI) (to tg : Nat) : List Cond := Cond.codeWith (iy i) (ib i) (iL i) (ir i) [(0, to, tg, 13)] :: gT
/-- a method with one handler that always returns: what is new besides the memory is k cells, n slots -/
def HMet (i : MI) (to tg : Nat) (as : List AV) (M : MM) (x : Option AV × MM) (mc ms : Nat) : Prop := Good M x ∧ ∀ (l : Launch) (G : CG) (ad : Nat → Nat) (sz sa : Nat), l.stackTraces = false →
  Met l (iy i) (wsH i to tg) (rmOf i mc ms) (PreX G ad M as sz sa) (QC G ad (va_A (wsOf G ad M) sz) (mz M) x) mc ms (va_A (wsOf G ad M) sz)
theorem HMet_of_X {β : Type} {L : β → Option AV × MM} {i : MI} {to tg : Nat} {as : List AV} {M : MM} {o : Option β} (hst : plainName (iy i).cls = true) (hlen : ct as ≤ iL i) (hW : WF M) (hok : ∀ v ∈ as, okv M v) (hx : X L i 0 (la 0 as) [] M o) : ∀ q, o = some q → HMet i to tg as M (L q) (mz (L q).2 - mz M) (mn (L q).2 - mn M) := by
  intro q hq
  obtain ⟨h1, h2⟩ := hx q hq hW ⟨la_ok as 0 hok, fun v hv => by cases hv⟩
  refine ⟨h1, fun l G ad sz sa _ => ?_⟩
  refine va_MetW (cc := ib i) (maxL := iL i) (ret := ir i) (hh := [(0, to, tg, 13)]) hst rfl ?_
  intro p e s m args below meth c s₁ B hml hv
  obtain ⟨⟨rfl, hsz, hK, hP, hD0⟩, -⟩ := hv
  subst hsz
  have hts := atoms_spec (ws := wsH i to tg) B.pre
  have hl := lv_entry (as.map (rv ad)) (n := iL i) (by rw [sl_len]; exact hlen)
  rw [lg_entry_eq]
  rw [la_map] at hl
  exact h2 p l e _ s m _ below meth c s.heap [] _ 0 0 _ G ad (mz M) ⟨B.exec, B.bytes, hml, findClass_of_methodNamed B.named, fun w hw => hts w (List.mem_cons_of_mem _ hw), B.notSynchronized, B.returns, (name_of_methodNamed B.named B.method).1, Nat.le_refl _, Nat.le_refl _⟩
    ⟨hK, hP, hD0.self, va_S.rf, fun q h => Or.inr h⟩ hl (Nat.le_refl _) (Nat.zero_add _) (Nat.zero_add _)
/-- on the road to the handler -/
def TY (to tg : Nat) (i : MI) (pc : Nat) (lv : List (Nat × AV)) (st : List AV) (M : MM) : Prop :=
  ∀ (p : Program) (l : Launch) (e : Env) (R : Room) (s : State) (m : MethodId) (args : Array Value) (below : List Frame) (meth : Method) (c : Code) (H : Heap) (locs : List Loc) (ls : Array Slot) (A : Nat → Prop) (G : CG) (ad : Nat → Nat) (sa : Nat),
    l.stackTraces = false → c.exceptionTable.toList = tableOf [(0, to, tg, 13)] → Sit i p R s m args meth c → ExH A sa s → World G ad A M s H locs → lv_has ls (iL i) (lv.map (lm ad)) → R.cells = 1 → R.slots = 6 →
    W p l e R s m args below meth c H locs 0 0 (MQ below (QC G ad A (mz M) (some (vi 1), M)) args s 1 6 A) (F0 m pc ls (st.map (rv ad)))
variable {to tg : Nat} {i : MI} {pc : Nat} {lv : List (Nat × AV)} {st : List AV} {M : MM}
theorem TY_pure {pc' : Nat} {lv' : List (Nat × AV)} {st' : List AV} (hs : PS i pc lv st pc' lv' st') (k : TY to tg i pc' lv' st' M) : TY to tg i pc lv st M := by
  intro p l e R s m args below meth c H locs ls A G ad sa h1 ht S hE hw hl hc hsl
  exact hs p l e R s m args below meth c H locs ls 0 0 _ ad S hl fun ls' hl' => k p l e R s m args below meth c H locs ls' A G ad sa h1 ht S hE hw hl' hc hsl
/-- the call that throws; the handler keeps what came, answers 1 -/
theorem TY_callX {idx ci b k : Nat} {j : MI} {as st1 : List AV} (hd : decode (ib i) pc = .ok (.invokevirtual idx, 3)) (hc : CVw (iy i).cls idx j as.length ci) (hr : RMw i j) (he : as.reverse ++ vr b :: st = st1) (h8 : ct st ≤ 8) (hK : (mK M b).1 = ci + 3) (hW : WF M)
    (hri : ir i = some .int) (hcl : Cond.classLink (iy i).cls 13 nse ∈ gT) (hcov : covers ⟨0, to, tg, 13⟩ pc = true) (dA : decode (ib i) tg = .ok (.astore k, 2)) (hkL : k < iL i) (dB : decode (ib i) (tg + 2) = .ok (.iconst 1, 1)) (dC : decode (ib i) (tg + 3) = .ok (.ireturn, 1))
    (hM : ∀ (l : Launch) (G : CG) (ad : Nat → Nat) (sz sa : Nat), l.stackTraces = false → vx_Met l (iy j) (wsF j) (rmOf j 1 6) (PreX G ad M (vr b :: as) sz sa) QFz (XT G ad (va_A (wsOf G ad M) sz) M) 1 6 (va_A (wsOf G ad M) sz)) : TY to tg i pc lv st1 M := by
  subst he
  intro p l e R s m args below meth c H locs ls A G ad sa h1 ht S hE hw hl hcs hsl
  obtain ⟨cb, w1, w2, w3⟩ := hc
  obtain ⟨a0, a1⟩ := hW.alive (a := b) (by rw [hK]; intro z; have z : ci = 997 := by omega
                                           subst z; cases w3)
  have hws := ws_get (G := G) (ad := ad) a0 a1
  rw [cO_obj hK] at hws
  obtain ⟨q3, f1, f2⟩ := Option.map_eq_some_iff.mp w3
  have hrecv := va_recv hw.1.1 hw.2.1 f1 hws
  rw [f2] at hrecv
  have hst : ((as.reverse ++ vr b :: st).map (rv ad)) = (as.map (rv ad)).reverse ++ .ref (ad b) :: st.map (rv ad) := by
    rw [List.map_append, List.map_reverse, List.map_cons]
    show _ ++ rr ad b :: _ = _
    rw [rr_ne a0]
  have hargs : (vr b :: as).map (rv ad) = .ref (ad b) :: as.map (rv ad) := by
    rw [List.map_cons]
    show rr ad b :: _ = _
    rw [rr_ne a0]
  have hf : ∀ q, va_A (wsOf G ad M) H.size q → A q := fun q h => by
    rcases h with ⟨k, e, h⟩ | h
    · exact hw.2.2.1.2 k _ h
    · exact hw.2.2.2.2 q (Nat.le_trans hw.2.2.2.1.1 h)
  have hp : ∀ U : State, U.heap = H → s.WarmedH U.vm → PreX G ad M (vr b :: as) H.size sa ((vr b :: as).map (rv ad)).toArray U := fun U hU hWm => ⟨⟨rfl, by rw [hU], hw.1.moved hWm, by rw [hU]; exact hw.2.1, hw.2.2.1.weaken (fun _ _ _ _ => trivial)⟩, hE.moved hw.2.2.2.1 hU hWm hf⟩
  have run := vx_runV (e := e) (meth := meth) (below := below) (As := as.map (rv ad)) (rest := st.map (rv ad)) (g := F0 m pc ls ((as.reverse ++ vr b :: st).map (rv ad))) (cells := 0) (slots := 0) (locs := locs) (fix_of S) (hM l G ad H.size sa h1) ⟨cb_of S cb hr, S.2.2.2.2.1 _ w1, S.2.2.2.2.1 _ w2⟩ ⟨PreX.blind, hrecv, fun U hU hWm => by rw [← hargs]; exact hp U hU hWm⟩ rfl (by simp) hl.1 hst (lv_room (by rw [ct_sum]; exact h8)) hd ⟨by omega, by omega⟩
  intro T hT XX
  rcases run T hT XX with ⟨v, st₀, t, T', Ls, h0, X', hL, t1, t2, hfalse, hgo⟩ | ⟨q, st₀, t, T', Ls, E, ce, h0, X', hL, t1, t2, ⟨rfl, hP1, hz, hkeep⟩, hce, hcv, hcc, hgo⟩
  · exact hfalse.elim
  · rw [h0] at hz hkeep
    have hS1 : va_S A s.heap T'.heap (locs ++ Ls) := by
      have hS := hw.2.2.2.1
      refine ⟨Nat.le_trans hS.1 (by rw [t1]; exact hz), fun q h1 h2 => by rw [t1, hkeep q (Nat.lt_of_lt_of_le h1 hS.1) (fun z => h2 (hf q z))]; exact hS.2.1 q h1 h2, fun q hq => ?_⟩
      rcases List.mem_append.mp hq with h | h
      · exact hS.2.2 q h
      · exact hf _ (hL q h)
    have hcast : (Cond.castable nse nse).before args s = true := va_Nw.use rfl (hE.1 _ exW_c)
    have kk : W p l e R s m args below meth c T'.heap (locs ++ Ls) 1 6 (MQ below (QC G ad A (mz M) (some (vi 1), M)) args s 1 6 A) (F0 m tg ls [.ref q]) :=
      lv_astore S.1 S.2.1 dA hl hkL rfl fun ls' hl' => lv_iconst S.1 S.2.1 dB (v := 1) rfl (W.iret S.1 S.2.1 (S.2.2.2.2.2.2.1.trans hri) (fun t9 h9 _ => ⟨⟨ad, fun _ _ => rfl, rfl, by rw [h9, t1]; exact hP1, hw.2.2.1⟩, hS1.F h9⟩) (fun z hz9 => hS1.2.2 z hz9) dC S.2.2.2.2.2.1)
    have hx := vx_catch (own := (iy i).cls) (name := nse) (E := nse) (ce := ce) (q := q) (pc := pc) (rest := st.map (rv ad)) S.2.2.2.1 [] ⟨0, to, tg, 13⟩ [] ht (fun z hz => by cases hz) hcov (show (13 : Nat) ≠ 0 by decide) (S.2.2.2.2.1 _ hcl) hcast (by rw [t1]; exact hce) hcv hcc kk
    obtain ⟨t3, b1, b2⟩ := hx T' rfl X'
    exact ⟨t3, hgo.trans b1, b2⟩
theorem HMet_of_TY {as : List AV} (hst : plainName (iy i).cls = true) (hlen : ct as ≤ iL i) (hW : WF M) (hx : TY to tg i 0 (la 0 as) [] M) : HMet i to tg as M (some (vi 1), M) 1 6 := by
  refine ⟨⟨⟨Nat.le_refl _, Nat.le_refl _⟩, hW, fun v hv => by cases hv; trivial⟩, fun l G ad sz sa h1 => ?_⟩
  refine va_MetW (cc := ib i) (maxL := iL i) (ret := ir i) (hh := [(0, to, tg, 13)]) hst rfl ?_
  intro p e s m args below meth c s₁ B hml hv
  obtain ⟨⟨rfl, hsz, hK, hP, hD0⟩, hE⟩ := hv
  subst hsz
  have hts := atoms_spec (ws := wsH i to tg) B.pre
  have hl := lv_entry (as.map (rv ad)) (n := iL i) (by rw [sl_len]; exact hlen)
  rw [lg_entry_eq]
  rw [la_map] at hl
  exact hx p l e _ s m _ below meth c s.heap [] _ _ G ad sa h1 (vx_table (x := iy i) B (hts _ List.mem_cons_self)) ⟨B.exec, B.bytes, hml, findClass_of_methodNamed B.named, fun w hw => hts w (List.mem_cons_of_mem _ hw), B.notSynchronized, B.returns, (name_of_methodNamed B.named B.method).1, Nat.le_refl _, Nat.le_refl _⟩ hE
    ⟨hK, hP, hD0.self, va_S.rf, fun q h => Or.inr h⟩ hl rfl rfl
/-! the three -/
theorem ddH_pops : AllD (ib hl_pops) [(0, .aload 4, 2), (2, .iconst 0, 1), (3, .aload_n 0, 1), (4, .iload_n 1, 1), (5, .iload_n 2, 1), (6, .iload_n 3, 1), (7, .invokevirtual 7, 3), (10, .lastore, 1), (11, .goto 7, 3), (14, .astore 5, 2), (16, .iconst 1, 1), (17, .ireturn, 1), (18, .iconst 0, 1), (19, .ireturn, 1)] := allD_of (by decide +kernel)
theorem ddH_rises : AllD (ib hl_rises) [(0, .aload_n 3, 1), (1, .iconst 0, 1), (2, .aload_n 0, 1), (3, .iload_n 1, 1), (4, .iload_n 2, 1), (5, .invokevirtual 15, 3), (8, .i2l, 1), (9, .lastore, 1), (10, .goto 7, 3), (13, .astore 4, 2), (15, .iconst 1, 1), (16, .ireturn, 1), (17, .iconst 0, 1), (18, .ireturn, 1)] := allD_of (by decide +kernel)
theorem ddH_lasts : AllD (ib hl_lasts) [(0, .aload_n 3, 1), (1, .iconst 0, 1), (2, .aload_n 0, 1), (3, .iload_n 1, 1), (4, .iload_n 2, 1), (5, .invokevirtual 19, 3), (8, .i2l, 1), (9, .lastore, 1), (10, .goto 7, 3), (13, .astore 4, 2), (15, .iconst 1, 1), (16, .ireturn, 1), (17, .iconst 0, 1), (18, .ireturn, 1)] := allD_of (by decide +kernel)
theorem hl_cl : Cond.classLink "CallStepsLaw" 13 nse ∈ gT := List.mem_filter.mpr ⟨by decide +kernel, rfl⟩
theorem ok_as {M : MM} {l : List Int32} {o : Nat} (h1 : 1 < mz M) (ho : o < mz M) : ∀ v ∈ vr 1 :: (l.map vi ++ [vr o]), okv M v := fun v hv => by
  rcases List.mem_cons.mp hv with e | e
  · rw [e]
    exact h1
  · rcases List.mem_append.mp e with e | e
    · obtain ⟨x, -, rfl⟩ := List.mem_map.mp e
      trivial
    · rw [List.mem_singleton.mp e]
      exact ho
theorem aA_out {β : Type} {M : MM} {o : Option β} (h : mK M 119 = (1, 1)) : aA M 119 1 0 o = o := by
  unfold aA
  rw [h]
  rfl
theorem HM_pops {M M1 : MM} {r : Int64} {x y z : Int32} (hW : WF M) (k1 : (mK M 1).1 = 11 + 3) (h119 : 119 < mz M) (h : f11_pops M 1 x y z = some (r, M1)) (ho : mK M1 119 = (1, 1)) : HMet hl_pops 11 14 [vr 1, vi x, vi y, vi z, vr 119] M (some (vi 0), sJ M1 119 0 r) (mz M1 - mz M) (mn M1 - mn M) := by
  obtain ⟨d0, d2, d3, d4, d5, d6, d7, d10, d11, d14, d16, d17, d18, d19, -⟩ := ddH_pops
  have hz : 1 < mz M := (hW.alive (a := 1) (by rw [k1]; decide)).2
  refine HMet_of_X (L := Li) (o := aO M 1 11 (cJ (f11_pops M 1 x y z) fun r M1 => aA M1 119 1 0 (some ((0 : Int32), sJ M1 119 0 r)))) (by decide) (Nat.le_of_ble_eq_true rfl) hW (ok_as (l := [x, y, z]) hz h119) ?_ ((0 : Int32), sJ M1 119 0 r) ?_
  · show X Li hl_pops 0 [(0, vr 1), (1, vi x), (2, vi y), (3, vi z), (4, vr 119)] [] M _
    refine X_aload 4 d0 rfl ?_
    refine X_iconst k_i_0 d2 ?_
    refine X_aloadn 0 d3 rfl ?_
    refine X_iloadn 1 d4 rfl ?_
    refine X_iloadn 2 d5 rfl ?_
    refine X_iloadn 3 d6 rfl ?_
    refine X_cVl (as := [vi x, vi y, vi z]) d7 cv_jCallStepsLaw_7 ⟨by decide, by decide⟩ rfl (Nat.le_of_ble_eq_true rfl) (T11_pops M 1 x y z) (fun r M1 _ => ?_)
    refine X_lastore d10 ?_
    refine X_goto (t := 18) d11 rfl ?_
    refine X_iconst k_i_0 d18 ?_
    exact X_ireturn d19 rfl rfl
  · unfold aO
    rw [if_pos k1, h]
    exact aA_out ho
theorem HM_rises {M M1 : MM} {r : Int32} {x y : Int32} (hW : WF M) (k1 : (mK M 1).1 = 11 + 3) (h119 : 119 < mz M) (h : f11_rises M 1 x y = some (r, M1)) (ho : mK M1 119 = (1, 1)) : HMet hl_rises 10 13 [vr 1, vi x, vi y, vr 119] M (some (vi 0), sJ M1 119 0 r.toInt64) (mz M1 - mz M) (mn M1 - mn M) := by
  obtain ⟨d0, d1, d2, d3, d4, d5, d8, d9, d10, d13, d15, d16, d17, d18, -⟩ := ddH_rises
  have hz : 1 < mz M := (hW.alive (a := 1) (by rw [k1]; decide)).2
  refine HMet_of_X (L := Li) (o := aO M 1 11 (cI (f11_rises M 1 x y) fun r M1 => aA M1 119 1 0 (some ((0 : Int32), sJ M1 119 0 r.toInt64)))) (by decide) (Nat.le_of_ble_eq_true rfl) hW (ok_as (l := [x, y]) hz h119) ?_ ((0 : Int32), sJ M1 119 0 r.toInt64) ?_
  · show X Li hl_rises 0 [(0, vr 1), (1, vi x), (2, vi y), (3, vr 119)] [] M _
    refine X_aloadn 3 d0 rfl ?_
    refine X_iconst k_i_0 d1 ?_
    refine X_aloadn 0 d2 rfl ?_
    refine X_iloadn 1 d3 rfl ?_
    refine X_iloadn 2 d4 rfl ?_
    refine X_cVi (as := [vi x, vi y]) d5 cv_jCallStepsLaw_15 ⟨by decide, by decide⟩ rfl (Nat.le_of_ble_eq_true rfl) (T11_rises M 1 x y) (fun r M1 _ => ?_)
    refine X_i2l d8 ?_
    refine X_lastore d9 ?_
    refine X_goto (t := 17) d10 rfl ?_
    refine X_iconst k_i_0 d17 ?_
    exact X_ireturn d18 rfl rfl
  · unfold aO
    rw [if_pos k1, h]
    exact aA_out ho
theorem HM_lasts {M M1 : MM} {r : Int32} {x y : Int32} (hW : WF M) (k1 : (mK M 1).1 = 11 + 3) (h119 : 119 < mz M) (h : f11_lasts M 1 x y = some (r, M1)) (ho : mK M1 119 = (1, 1)) : HMet hl_lasts 10 13 [vr 1, vi x, vi y, vr 119] M (some (vi 0), sJ M1 119 0 r.toInt64) (mz M1 - mz M) (mn M1 - mn M) := by
  obtain ⟨d0, d1, d2, d3, d4, d5, d8, d9, d10, d13, d15, d16, d17, d18, -⟩ := ddH_lasts
  have hz : 1 < mz M := (hW.alive (a := 1) (by rw [k1]; decide)).2
  refine HMet_of_X (L := Li) (o := aO M 1 11 (cI (f11_lasts M 1 x y) fun r M1 => aA M1 119 1 0 (some ((0 : Int32), sJ M1 119 0 r.toInt64)))) (by decide) (Nat.le_of_ble_eq_true rfl) hW (ok_as (l := [x, y]) hz h119) ?_ ((0 : Int32), sJ M1 119 0 r.toInt64) ?_
  · show X Li hl_lasts 0 [(0, vr 1), (1, vi x), (2, vi y), (3, vr 119)] [] M _
    refine X_aloadn 3 d0 rfl ?_
    refine X_iconst k_i_0 d1 ?_
    refine X_aloadn 0 d2 rfl ?_
    refine X_iloadn 1 d3 rfl ?_
    refine X_iloadn 2 d4 rfl ?_
    refine X_cVi (as := [vi x, vi y]) d5 cv_jCallStepsLaw_19 ⟨by decide, by decide⟩ rfl (Nat.le_of_ble_eq_true rfl) (T11_lasts M 1 x y) (fun r M1 _ => ?_)
    refine X_i2l d8 ?_
    refine X_lastore d9 ?_
    refine X_goto (t := 17) d10 rfl ?_
    refine X_iconst k_i_0 d17 ?_
    exact X_ireturn d18 rfl rfl
  · unfold aO
    rw [if_pos k1, h]
    exact aA_out ho
theorem HT_pops {M : MM} {x y z : Int32} (hW : WF M) (k1 : (mK M 1).1 = 11 + 3) (kP : (mK M (mR M 1 10)).1 = 7 + 3) (hno : okP M x y z = false) : HMet hl_pops 11 14 [vr 1, vi x, vi y, vi z, vr 119] M (some (vi 1), M) 1 6 := by
  obtain ⟨d0, d2, d3, d4, d5, d6, d7, d10, d11, d14, d16, d17, d18, d19, -⟩ := ddH_pops
  refine HMet_of_TY (by decide) (Nat.le_of_ble_eq_true rfl) hW ?_
  show TY 11 14 hl_pops 0 [(0, vr 1), (1, vi x), (2, vi y), (3, vi z), (4, vr 119)] [] M
  refine TY_pure (PS_aload 4 d0 rfl) ?_
  refine TY_pure (PS_iconst k_i_0 d2) ?_
  refine TY_pure (PS_aloadn 0 d3 rfl) ?_
  refine TY_pure (PS_iloadn 1 d4 rfl) ?_
  refine TY_pure (PS_iloadn 2 d5 rfl) ?_
  refine TY_pure (PS_iloadn 3 d6 rfl) ?_
  exact TY_callX (as := [vi x, vi y, vi z]) (st := [vi 0, vr 119]) d7 cv_jCallStepsLaw_7 ⟨by decide, by decide⟩ rfl (Nat.le_of_ble_eq_true rfl) k1 hW rfl hl_cl rfl d14 (Nat.le_of_ble_eq_true rfl) d16 d17 (fun l G ad sz sa h1 => XMet_of_TX (as := [vr 1, vi x, vi y, vi z]) (by decide) (Nat.le_of_ble_eq_true rfl) (TX_pops hW k1 kP x y z hno) l G ad sz sa h1)
theorem HT_rises {M : MM} {x y : Int32} (hW : WF M) (k1 : (mK M 1).1 = 11 + 3) (kP : (mK M (mR M 1 10)).1 = 7 + 3) (hno : okH M x y = false) : HMet hl_rises 10 13 [vr 1, vi x, vi y, vr 119] M (some (vi 1), M) 1 6 := by
  obtain ⟨d0, d1, d2, d3, d4, d5, d8, d9, d10, d13, d15, d16, d17, d18, -⟩ := ddH_rises
  refine HMet_of_TY (by decide) (Nat.le_of_ble_eq_true rfl) hW ?_
  show TY 10 13 hl_rises 0 [(0, vr 1), (1, vi x), (2, vi y), (3, vr 119)] [] M
  refine TY_pure (PS_aloadn 3 d0 rfl) ?_
  refine TY_pure (PS_iconst k_i_0 d1) ?_
  refine TY_pure (PS_aloadn 0 d2 rfl) ?_
  refine TY_pure (PS_iloadn 1 d3 rfl) ?_
  refine TY_pure (PS_iloadn 2 d4 rfl) ?_
  exact TY_callX (as := [vi x, vi y]) (st := [vi 0, vr 119]) d5 cv_jCallStepsLaw_15 ⟨by decide, by decide⟩ rfl (Nat.le_of_ble_eq_true rfl) k1 hW rfl hl_cl rfl d13 (Nat.le_of_ble_eq_true rfl) d15 d16 (fun l G ad sz sa h1 => XMet_of_TX (as := [vr 1, vi x, vi y]) (by decide) (Nat.le_of_ble_eq_true rfl) (TX_rises hW k1 kP x y hno) l G ad sz sa h1)
theorem HT_lasts {M : MM} {x y : Int32} (hW : WF M) (k1 : (mK M 1).1 = 11 + 3) (kP : (mK M (mR M 1 10)).1 = 7 + 3) (hno : okH M x y = false) : HMet hl_lasts 10 13 [vr 1, vi x, vi y, vr 119] M (some (vi 1), M) 1 6 := by
  obtain ⟨d0, d1, d2, d3, d4, d5, d8, d9, d10, d13, d15, d16, d17, d18, -⟩ := ddH_lasts
  refine HMet_of_TY (by decide) (Nat.le_of_ble_eq_true rfl) hW ?_
  show TY 10 13 hl_lasts 0 [(0, vr 1), (1, vi x), (2, vi y), (3, vr 119)] [] M
  refine TY_pure (PS_aloadn 3 d0 rfl) ?_
  refine TY_pure (PS_iconst k_i_0 d1) ?_
  refine TY_pure (PS_aloadn 0 d2 rfl) ?_
  refine TY_pure (PS_iloadn 1 d3 rfl) ?_
  refine TY_pure (PS_iloadn 2 d4 rfl) ?_
  exact TY_callX (as := [vi x, vi y]) (st := [vi 0, vr 119]) d5 cv_jCallStepsLaw_19 ⟨by decide, by decide⟩ rfl (Nat.le_of_ble_eq_true rfl) k1 hW rfl hl_cl rfl d13 (Nat.le_of_ble_eq_true rfl) d15 d16 (fun l G ad sz sa h1 => XMet_of_TX (as := [vr 1, vi x, vi y]) (by decide) (Nat.le_of_ble_eq_true rfl) (TX_lasts hW k1 kP x y hno) l G ad sz sa h1)
end THL
