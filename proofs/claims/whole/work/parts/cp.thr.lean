/-! CALLS THAT THROW: the class's own throws -/
section THR
def nse : String := "java/util/NoSuchElementException"
def exN : List String := ["java/lang/RuntimeException", "java/lang/Exception"]
def exL : List Cond := xa_at "CallSteps" 241 nse 13 prog_25_method_4_code exN
theorem exL_in : ∀ w ∈ exL, w ∈ lw_tbl := by decide +kernel
theorem exL_ot : ∀ w ∈ Cond.classLink "CallSteps" 237 nse :: Cond.initialized nse :: exL, vx_ot w = true := by decide +kernel
def exW : List Cond := exL.filter (fun w => !goodWord w)
theorem exW_t : ∀ w ∈ exW, w.onTables = true := by decide +kernel
theorem exW_k : (exW.all fun w => match w with | .declares _ => true | .castable _ _ => true | _ => false) = true := by decide +kernel
theorem exW_c : Cond.castable nse nse ∈ exW := by decide +kernel
theorem exW_moved {u U : State} (hW : u.WarmedH U.vm) {w : Cond} (hw : w ∈ exW) (h : va_Nw w u) : va_Nw w U := by
  have h1 := List.all_eq_true.mp exW_k w hw
  cases w <;> first | exact va_Nw.warmD hW h | exact va_Nw.warmC hW h | (simp at h1; done)
theorem exL_at {args : Array Value} {s : State} (hts : ∀ w ∈ gT, w.before args s = true) (hx : ∀ w ∈ exW, va_Nw w s) : ∀ w ∈ exL, w.before args s = true := fun w hw => by
  cases g : goodWord w with
  | true => exact hts w (List.mem_filter.mpr ⟨exL_in w hw, g⟩)
  | false =>
    have h1 : w ∈ exW := List.mem_filter.mpr ⟨hw, by rw [g]; rfl⟩
    exact va_Nw.use (exW_t w h1) (hx w h1)
theorem ex_k : Cond.classLink "CallSteps" 237 nse ∈ gT := List.mem_filter.mpr ⟨by decide +kernel, rfl⟩
theorem ex_i : Cond.initialized nse ∈ gT := List.mem_filter.mpr ⟨by decide +kernel, rfl⟩
theorem ex_d : decode prog_25_method_4_code 0 = .ok (.aload_n 0, 1) ∧ decode prog_25_method_4_code 1 = .ok (.aload_n 1, 1) ∧ decode prog_25_method_4_code 2 = .ok (.invokespecial 13, 3) ∧ decode prog_25_method_4_code 5 = .ok (.return_, 1) := by decide +kernel
/-- what a throw asks of the state -/
def ExH (A : Nat → Prop) (sa : Nat) (U : State) : Prop := (∀ w ∈ exW, va_Nw w U) ∧ vx_Zq Bundle.tN "UNASSIGNED_STACK" Bundle.steD A U U.heap ∧ vx_Zq Bundle.tN "SUPPRESSED_SENTINEL" Bundle.listD A U U.heap ∧ vk_R "CallSteps" 239 "no such state or sign" sa U
def PreX (G : CG) (ad : Nat → Nat) (M : MM) (as : List AV) (sz sa : Nat) : Array Value → State → Prop := fun a U => PreM G ad M as sz a U ∧ ExH (va_A (wsOf G ad M) sz) sa U
theorem PreX.blind {G : CG} {ad : Nat → Nat} {M : MM} {as : List AV} {sz sa : Nat} : FrameBlind (PreX G ad M as sz sa) := fun a U g mk h =>
  ⟨PreM.blind a U g mk h.1, fun w hw => va_tabs (exW_t w hw) (u := U) (U := U.calling g mk a) rfl (h.2.1 w hw), vx_Zq.moved (u := U) (U := U.calling g mk a) (Vm.Alike.refl U.vm) h.2.2.1, vx_Zq.moved (u := U) (U := U.calling g mk a) (Vm.Alike.refl U.vm) h.2.2.2.1, vk_R.same (u := U) (U := U.calling g mk a) rfl h.2.2.2.2⟩
theorem ExH.moved {A B : Nat → Prop} {sa : Nat} {s U : State} {H : Heap} {locs : List Loc} (h : ExH A sa s) (hS : va_S A s.heap H locs) (hU : U.heap = H) (hW : s.WarmedH U.vm) (hAB : ∀ q, B q → A q) : ExH B sa U := by
  refine ⟨fun w hw => exW_moved hW hw (h.1 w hw), ?_, ?_, vk_R.warm hW h.2.2.2⟩
  · rw [hU]
    exact vx_Zq.narrow (vx_Zq.moved hW.alike (h.2.1.kept hS.2.1)) hAB
  · rw [hU]
    exact vx_Zq.narrow (vx_Zq.moved hW.alike (h.2.2.1.kept hS.2.1)) hAB
/-- how it leaves: the class of what is thrown, the memory as it was -/
def XT (G : CG) (ad : Nat → Nat) (A : Nat → Prop) (M : MM) : String → State → State → Prop := fun E st t => E = nse ∧ va_P G.1 vwCl (wsOf G ad M) t.heap ∧ va_F A st t
def QFz : Array Value → State → Outcome → State → Prop := fun _ _ _ _ => False
def TX (i : MI) (pc : Nat) (lv : List (Nat × AV)) (st : List AV) (M : MM) : Prop :=
  ∀ (p : Program) (l : Launch) (e : Env) (R : Room) (s : State) (m : MethodId) (args : Array Value) (below : List Frame) (meth : Method) (c : Code) (H : Heap) (locs : List Loc) (ls : Array Slot) (A : Nat → Prop) (G : CG) (ad : Nat → Nat) (sa : Nat),
    l.stackTraces = false → (∀ x ∈ c.exceptionTable.toList, False) → Sit i p R s m args meth c → ExH A sa s → World G ad A M s H locs → lv_has ls (iL i) (lv.map (lm ad)) → R.cells = 1 → R.slots = 6 →
    W p l e R s m args below meth c H locs 0 0 (vx_MQ below QFz (XT G ad A M) args s 1 6 A) (F0 m pc ls (st.map (rv ad)))
variable {i : MI} {pc : Nat} {lv : List (Nat × AV)} {st : List AV} {M : MM}
theorem PS_aloadn {k : Fin 4} (j : Nat) {a : Nat} (hd : decode (ib i) pc = .ok (.aload_n k, 1)) (hl : lv[j]? = some ((k : Nat), vr a)) : PS i pc lv st (pc + 1) lv (vr a :: st) := fun p l e R s m args below meth c H locs ls cells slots Q ad S h kk => ax_aload_n S.1 S.2.1 (rr_isRef ad a) hd (lm_at h hl) (kk ls h)
theorem PS_iloadn {k : Fin 4} (j : Nat) {x : Int32} (hd : decode (ib i) pc = .ok (.iload_n k, 1)) (hl : lv[j]? = some ((k : Nat), vi x)) : PS i pc lv st (pc + 1) lv (vi x :: st) := fun p l e R s m args below meth c H locs ls cells slots Q ad S h kk => lv_iload_n S.1 S.2.1 hd rfl (lm_at h hl) (kk ls h)
theorem PS_aload {k : Nat} (j : Nat) {a : Nat} (hd : decode (ib i) pc = .ok (.aload k, 2)) (hl : lv[j]? = some (k, vr a)) : PS i pc lv st (pc + 2) lv (vr a :: st) := fun p l e R s m args below meth c H locs ls cells slots Q ad S h kk => ax_aload S.1 S.2.1 (rr_isRef ad a) hd (lm_at h hl) (kk ls h)
theorem PS_iconst {n : Int} {x : Int32} (hx : Int32.ofInt n = x) (hd : decode (ib i) pc = .ok (.iconst n, 1)) : PS i pc lv st (pc + 1) lv (vi x :: st) := fun p l e R s m args below meth c H locs ls cells slots Q ad S h kk => lv_iconst S.1 S.2.1 hd hx (kk ls h)
theorem TX_pure {pc' : Nat} {lv' : List (Nat × AV)} {st' : List AV} (hs : PS i pc lv st pc' lv' st') (k : TX i pc' lv' st' M) : TX i pc lv st M := by
  intro p l e R s m args below meth c H locs ls A G ad sa h1 ht S hE hw hl hc hsl
  exact hs p l e R s m args below meth c H locs ls 0 0 _ ad S hl fun ls' hl' => k p l e R s m args below meth c H locs ls' A G ad sa h1 ht S hE hw hl' hc hsl
theorem TX_getR {idx a ci k : Nat} (hd : decode (ib i) pc = .ok (.getfield idx, 3)) (hf : FG (iy i).cls idx ci k 2) (hK : (mK M a).1 = ci + 3) (hW : WF M) (kk : TX i (pc + 3) lv (vr (mR M a k) :: st) M) : TX i pc lv (vr a :: st) M := by
  intro p l e R s m args below meth c H locs ls A G ad sa h1 ht S hE hw hl hc hsl
  have hv := fV_2 (ad := ad) (M := M) (a := a) hf.1
  obtain ⟨-, C, T, N, f1, f2, f3, f4⟩ := hf
  obtain ⟨a0, a1⟩ := hW.alive (a := a) (by rw [hK]; intro z; have z : ci = 997 := by omega
                                           subst z; cases f1)
  have hlen : (mK M a).2 = N := hW.2.2.2.2 a ci hK _ f1
  have he := ws_get (G := G) (ad := ad) a0 a1
  rw [cO_obj hK, hlen] at he
  show W p l e R s m args below meth c H locs 0 0 _ (F0 m pc ls (rr ad a :: _))
  rw [rr_ne a0]
  refine va_get (D := G.1) (ci := ci) (v := rr ad (mR M a k)) (C := C) (T := T) (N := N) S.1 S.2.1 S.2.2.2.2.1 f4 S.2.2.2.1 hw.1.1 hw.2.1 (a - 1) he f1 k f2 (S.2.2.2.2.1 _ f3) (fun _ h9 => h9) (by rw [fs_get _ f2, hv]) hd ?_
  exact kk p l e R s m args below meth c H locs ls A G ad sa h1 ht S hE hw hl hc hsl
theorem TX_ifeq {x : Int32} {off : Int} {t : Nat} (hd : decode (ib i) pc = .ok (.ifCond .eq off, 3)) (ht : (pc : Int) + off = (t : Int)) (k1 : x = 0 → TX i t lv st M) (k2 : ¬ x = 0 → TX i (pc + 3) lv st M) : TX i pc lv (vi x :: st) M := by
  intro p l e R s m args below meth c H locs ls A G ad sa h1 h2 S hE hw hl hc hsl
  exact lv_if_eq S.1 S.2.1 hd ht (fun q => k1 q p l e R s m args below meth c H locs ls A G ad sa h1 h2 S hE hw hl hc hsl) (fun q => k2 q p l e R s m args below meth c H locs ls A G ad sa h1 h2 S hE hw hl hc hsl)
theorem TX_ifne {x : Int32} {off : Int} {t : Nat} (hd : decode (ib i) pc = .ok (.ifCond .ne off, 3)) (ht : (pc : Int) + off = (t : Int)) (k1 : ¬ x = 0 → TX i t lv st M) (k2 : x = 0 → TX i (pc + 3) lv st M) : TX i pc lv (vi x :: st) M := by
  intro p l e R s m args below meth c H locs ls A G ad sa h1 h2 S hE hw hl hc hsl
  first
  | exact lv_if_ne S.1 S.2.1 hd ht (fun q => k1 q p l e R s m args below meth c H locs ls A G ad sa h1 h2 S hE hw hl hc hsl) (fun q => k2 q p l e R s m args below meth c H locs ls A G ad sa h1 h2 S hE hw hl hc hsl)
  | exact lv_if_ne S.1 S.2.1 hd ht (fun q => k2 q p l e R s m args below meth c H locs ls A G ad sa h1 h2 S hE hw hl hc hsl) (fun q => k1 q p l e R s m args below meth c H locs ls A G ad sa h1 h2 S hE hw hl hc hsl)
/-- a question of an object that leaves the memory -/
theorem TX_callV {idx ci b : Nat} {j : MI} {as st1 : List AV} {r : AV} (hd : decode (ib i) pc = .ok (.invokevirtual idx, 3)) (hc : CVw (iy i).cls idx j as.length ci) (hr : RMw i j) (he : as.reverse ++ vr b :: st = st1) (h8 : ct st ≤ 8) (hK : (mK M b).1 = ci + 3) (hW : WF M) (hO : OK M lv st1) (hrun : Run j (vr b :: as) M (some r, M)) (kk : TX i (pc + 3) lv (r :: st) M) : TX i pc lv st1 M := by
  subst he
  have hOa : ∀ v ∈ vr b :: as, okv M v := fun v hv => hO.2 v (by
    rcases List.mem_cons.mp hv with e | e
    · subst e
      exact List.mem_append_right _ List.mem_cons_self
    · exact List.mem_append_left _ (List.mem_reverse.mpr e))
  have hO1 : OK M lv st := ⟨hO.1, fun v hv => hO.2 v (List.mem_append_right _ (List.mem_cons_of_mem _ hv))⟩
  obtain ⟨hg, hM⟩ := hrun hW hOa
  have hvr : okv M r := hg.2.2 r rfl
  intro p l e R s m args below meth c H locs ls A G ad sa h1 ht S hE hw hl hcs hsl
  have hM0 := hM l G ad H.size
  obtain ⟨cb, w1, w2, w3⟩ := hc
  obtain ⟨a0, a1⟩ := hW.alive (a := b) (by rw [hK]; intro z; have z : ci = 997 := by omega
                                           subst z; cases w3)
  have hws := ws_get (G := G) (ad := ad) a0 a1
  rw [cO_obj hK] at hws
  obtain ⟨q3, f1, f2⟩ := Option.map_eq_some_iff.mp w3
  have hrecv := va_recv hw.1.1 hw.2.1 f1 hws
  rw [f2] at hrecv
  have hst : ((as.reverse ++ vr b :: st).map (rv ad)) = (as.map (rv ad)).reverse ++ .ref (ad b) :: st.map (rv ad) := by
    rw [List.map_append, List.map_reverse, List.map_cons]
    show _ ++ rr ad b :: _ = _
    rw [rr_ne a0]
  have hargs : (vr b :: as).map (rv ad) = .ref (ad b) :: as.map (rv ad) := by
    rw [List.map_cons]
    show rr ad b :: _ = _
    rw [rr_ne a0]
  have hp : ∀ U : State, U.heap = H → s.WarmedH U.vm → PreM G ad M (vr b :: as) H.size ((vr b :: as).map (rv ad)).toArray U := fun U hU hWm => ⟨rfl, by rw [hU], hw.1.moved hWm, by rw [hU]; exact hw.2.1, hw.2.2.1.weaken (fun _ _ _ _ => trivial)⟩
  have run := va_runV (e := e) (meth := meth) (below := below) (As := as.map (rv ad)) (rest := st.map (rv ad)) (g := F0 m pc ls ((as.reverse ++ vr b :: st).map (rv ad))) (cells := 0) (slots := 0) (locs := locs) (fix_of S) hM0 ⟨cb_of S cb hr, S.2.2.2.2.1 _ w1, S.2.2.2.2.1 _ w2⟩ ⟨PreM.blind, hrecv, fun U hU hWm => by rw [← hargs]; exact hp U hU hWm⟩ rfl (by simp) hl.1 hst (lv_room (by rw [ct_sum]; exact h8)) hd ⟨by show 0 + (mz M - mz M) ≤ _; omega, by show 0 + (mn M - mn M) ≤ _; omega⟩
  intro T hT XX
  obtain ⟨v, st₀, t, T', Ls, h0, X', hL, t1, t2, ⟨⟨ad', k1, k2, k3, k4⟩, hz, hkeep⟩, hgo⟩ := run T hT XX
  cases k2
  rw [h0] at hz hkeep
  rw [ws_ag hW k1] at k3 k4
  have hf : ∀ q, va_A (wsOf G ad M) H.size q → A q := fun q h => by
    rcases h with ⟨k, e, h⟩ | h
    · exact hw.2.2.1.2 k _ h
    · exact hw.2.2.2.2 q (Nat.le_trans hw.2.2.2.1.1 h)
  have hS1 : va_S A s.heap T'.heap (locs ++ Ls) := by
    have hS := hw.2.2.2.1
    refine ⟨Nat.le_trans hS.1 (by rw [t1]; exact hz), fun q h1 h2 => by rw [t1, hkeep q (Nat.lt_of_lt_of_le h1 hS.1) (fun z => h2 (hf q z))]; exact hS.2.1 q h1 h2, fun q hq => ?_⟩
    rcases List.mem_append.mp hq with h | h
    · exact hS.2.2 q h
    · exact hf _ (hL q h)
  have ec : 0 + (mz M - mz M) = 0 := by omega
  have es : 0 + (mn M - mn M) = 0 := by omega
  have X2 : Stand p l e R s m args below meth c T' (locs ++ Ls) 0 0 := by
    have X3 := X'
    rw [show (0 + (mz ((some r, M) : Option AV × MM).2 - mz M)) = 0 from ec, show (0 + (mn ((some r, M) : Option AV × MM).2 - mn M)) = 0 from es] at X3
    exact X3
  have hk2 := kk p l e R s m args below meth c T'.heap (locs ++ Ls) ls A G ad sa h1 ht S hE ⟨hw.1, by rw [t1]; exact k3, hw.2.2.1, hS1, hw.2.2.2.2⟩ hl hcs hsl
  obtain ⟨t3, b1, b2⟩ := hk2 T' rfl X2
  have e9 : (r :: st).map (rv ad) = (some (rv ad' r)).toList ++ st.map (rv ad) := by
    rw [List.map_cons, rv_ag k1 hvr]
    rfl
  rw [e9] at b1
  exact ⟨t3, hgo t3 b1, b2⟩
/-- 'throw new NoSuchElementException("no such state or sign")' -/
theorem TX_throw (hcls : (iy i).cls = "CallSteps") (d0 : decode (ib i) pc = .ok (.new 237, 3)) (d3 : decode (ib i) (pc + 3) = .ok (.dup, 1)) (d4 : decode (ib i) (pc + 4) = .ok (.ldc 239, 2)) (d6 : decode (ib i) (pc + 6) = .ok (.invokespecial 241, 3)) (d9 : decode (ib i) (pc + 9) = .ok (.athrow, 1)) (hf : 6 ≤ ifr i) (hlo : 100 ≤ ilo i) : TX i pc lv [] M := by
  intro p l e R s m args below meth c H locs ls A G ad sa h1 ht S hE hw hl hcs hsl
  have hown : s.vm.findClass "CallSteps" = some m.cls := by rw [← hcls]; exact S.2.2.2.1
  have hfr := S.2.2.2.2.2.2.2.2.1
  have hlr := S.2.2.2.2.2.2.2.2.2
  refine xa_make (own := "CallSteps") (cls := nse) (names := exN) (text := "no such state or sign") (sa := sa) (A := A) (D := G.1) (cl := vwCl) (ws := wsOf G ad M) S.1 S.2.1 h1 ex_d.1 ex_d.2.1 ex_d.2.2.1 ex_d.2.2.2 hown (by decide) (by decide) (S.2.2.2.2.1 _ ex_k) (S.2.2.2.2.1 _ ex_i) hE.2.2.2 (exL_at S.2.2.2.2.1 hE.1) exL_ot hE.2.1 hE.2.2.1 hw.2.2.2.1 (hl.1.trans S.2.2.1.symm) d0 d3 d4 d6 hw.2.1 (by show 2 + 3 < R.frames; omega) (by show (([] : List Value).map fun v => v.category).sum + (13 * (2 + 1) + 43) ≤ R.locals; show 0 + (13 * (2 + 1) + 43) ≤ R.locals; omega) (by omega) (by omega) fun q ce H1 hP1 hq hv hcl hz hk hS1 => ?_
  refine vx_athrow S.1 S.2.1 d9 ?_
  exact vx_out (E := nse) (ce := ce) (fun x hx => (ht x hx).elim) S.2.2.2.2.2.1 hq hv hcl (fun t h9 _ => ⟨rfl, by rw [h9]; exact hP1, hS1.F h9⟩) (fun z hz9 => hS1.2.2 z hz9) (Nat.le_refl _) (Nat.le_refl _)
/-- the contract of a call that throws -/
theorem XMet_of_TX {as : List AV} (hst : plainName (iy i).cls = true) (hlen : ct as ≤ iL i) (hx : TX i 0 (la 0 as) [] M) (l : Launch) (G : CG) (ad : Nat → Nat) (sz sa : Nat) (h1 : l.stackTraces = false) :
    vx_Met l (iy i) (wsF i) (rmOf i 1 6) (PreX G ad M as sz sa) QFz (XT G ad (va_A (wsOf G ad M) sz) M) 1 6 (va_A (wsOf G ad M) sz) := by
  refine vx_ofW (cc := ib i) (maxL := iL i) (ret := ir i) hst rfl ?_
  intro p e s m args below meth c s₁ B hml ht hv
  obtain ⟨⟨rfl, hsz, hK, hP, hD0⟩, hE⟩ := hv
  subst hsz
  have hts := atoms_spec (ws := wsF i) B.pre
  have hl := lv_entry (as.map (rv ad)) (n := iL i) (by rw [sl_len]; exact hlen)
  rw [lg_entry_eq]
  rw [la_map] at hl
  exact hx p l e _ s m _ below meth c s.heap [] _ _ G ad sa h1 ht ⟨B.exec, B.bytes, hml, findClass_of_methodNamed B.named, fun w hw => hts w (List.mem_cons_of_mem _ hw), B.notSynchronized, B.returns, (name_of_methodNamed B.named B.method).1, Nat.le_refl _, Nat.le_refl _⟩ hE
    ⟨hK, hP, hD0.self, va_S.rf, fun q h => Or.inr h⟩ hl rfl rfl
end THR
