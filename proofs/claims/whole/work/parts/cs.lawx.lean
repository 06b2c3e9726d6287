/-! THE LAW: calls that catch -/
section OUTX
variable {Q : QG} {o : Nat} {nw : NW} {n : Nat} {A : Nat → NW × Nat} {L : Nat} {B : Nat → Nat} {ar : Nat → Nat} {d a : Nat} {f1 f2 : Int32}
theorem out_sm (M : MM) (w : Int64) : Sm [] [119] M (sJ M 119 0 w) := (Sm.rfl _ _ M).uJ _ (by decide)
theorem out_i {M : MM} (h : IC M Q o nw n A L B ar d a f1 f2) (im : IM M Q o nw n A L B f1 f2) (iz : IZ M d) (w : Int64) : IC (sJ M 119 0 w) Q o nw n A L B ar d a f1 f2 ∧ IM (sJ M 119 0 w) Q o nw n A L B f1 f2 ∧ IZ (sJ M 119 0 w) d := by
  have s := out_sm M w
  have e1 : mI (sJ M 119 0 w) 1 = mI M 1 := s.i 1 (by decide)
  have n1 : ∀ x, x ∈ [6, 8, 15, 17] → x ∉ [119] := by decide
  refine ⟨h.cr ⟨fun x _ => s.i x (fun z => by cases z), fun x _ => s.i x (fun z => by cases z), by rw [s.i 43 (by decide)], fun x hx => s.j x (n1 x hx), fun k => by rw [s.r]⟩ (h.1.sm s (by rw [e1]) (by decide)) (h.2.1.sm s (by rw [e1]) (by decide)) (h.2.2.1.sm s (by rw [e1]) (by decide)), im.cl (h.1.1.sm s) (fun x h1 h2 => ⟨s.i x (fun z => by cases z), s.j x (fun z => by rw [List.mem_singleton.mp z] at h2; exact absurd h2 (by decide))⟩), iz.md s⟩
/-- as StT, with what the law writes into its own cell between the two -/
def StU {α : Type} (ok : MM → Bool) (f g : MM → Option (α × MM)) : Prop := ∀ M, Inv M → (ok M = true → ∃ r M1, f M = some (r, M1) ∧ mK M1 119 = (1, 1) ∧ ∀ w, ∃ M2, g (sJ M1 119 0 w) = some (r, M2) ∧ mI M2 86 0 = 0 ∧ Inv M2 ∧ mJ M2 119 0 = w) ∧ (ok M = false → ∃ r M2, g M = some (r, M2) ∧ mI M2 86 0 = 1 ∧ Inv M2)
theorem out_j {M : MM} {w : Int64} : mJ (sJ M 119 0 w) 119 0 = w := by rw [mJ_sJ, if_pos ⟨rfl, rfl⟩]
theorem su_pops (x y z : Int32) : StU (fun M => okP M x y z) (fun M => f11_pops M 1 x y z) (fun M => f12_pops M 86 x y z) := fun M hv => by
  refine ⟨fun c => ?_, (st_pops x y z M hv).2⟩
  obtain ⟨Q, o, nw, n, A, L, B, ar, d, a, f1, f2, ic, im, aw, iz⟩ := hv
  have eo : okP M x y z = (ibx (pS Q.1) x && ibx (pG Q.1) y && ibx (pS Q.1) z) := by
    unfold okP
    rw [okS_e ic.1, okG_e ic.1, okS_e ic.1]
  have c' : okP M x y z = true := c
  rw [eo] at c'
  have c2 := c'
  rw [Bool.and_eq_true, Bool.and_eq_true] at c'
  obtain ⟨p, hp, ep⟩ := ibx_out c'.1.1 (by have := ic.1.2.1.1; omega)
  obtain ⟨g, hg, eg⟩ := ibx_out c'.1.2 (by have := ic.1.2.1.2.1; omega)
  obtain ⟨q, hq, eq⟩ := ibx_out c'.2 (by have := ic.1.2.1.1; omega)
  obtain ⟨F, hF⟩ := Net_ex ic.1.2.1 o (gTG Q.1)
  obtain ⟨M1, a1, a2, a3, a4, a5⟩ := S11_pops ic.1 ic.2.1 hp hg hq hF
  rw [← ep, ← eg, ← eq] at a1
  obtain ⟨ic1, im1, iz1⟩ := iq1 ic im iz a2 (by decide) (by rw [a2.i 43 (by decide)]; exact ic.2.2.2.2.2.2.2.1) (a3 14 (by decide)) a4 a5
  refine ⟨_, M1, a1, iz1.1, fun w => ?_⟩
  obtain ⟨ic2, im2, iz2⟩ := out_i ic1 im1 iz1 w
  obtain ⟨M2, r', b1, b2, b3, b4, b5, b6, b7⟩ := SM_pops im2.1.1.1 im2.1.1.2.1 x y z
  rw [b7 p g q F hp hg hq ep eg eq hF] at b1
  exact ⟨M2, b1, by rw [b6, c2]; rfl, iq2 ic2 im2 aw iz2 b2 (by decide) (fun j hj => b3 j (by omega) (by omega) (by omega)) b4 b5, by rw [b2.j 119 (by decide)]; exact out_j⟩
theorem su_rises (x y : Int32) : StU (fun M => okH M x y) (fun M => f11_rises M 1 x y) (fun M => f12_rises M 86 x y) := fun M hv => by
  refine ⟨fun c => ?_, (st_rises x y M hv).2⟩
  obtain ⟨Q, o, nw, n, A, L, B, ar, d, a, f1, f2, ic, im, aw, iz⟩ := hv
  have eo : okH M x y = (ibx (pS Q.1) x && ibx (pG Q.1) y) := by
    unfold okH
    rw [okS_e ic.1, okG_e ic.1]
  obtain ⟨cn, hcn⟩ := CnOK_ex ic.1.2.1 o
  obtain ⟨cF, cR, cC, cM⟩ := rise_both (cn := cn) (o := o) ic.1.2.1 (by have := ic.1.2.2.1; omega)
  have c' : okH M x y = true := c
  rw [eo] at c'
  have c2 := c'
  rw [Bool.and_eq_true] at c'
  obtain ⟨p, hp, ep⟩ := ibx_out c'.1 (by have := ic.1.2.1.1; omega)
  obtain ⟨g, hg, eg⟩ := ibx_out c'.2 (by have := ic.1.2.1.2.1; omega)
  obtain ⟨M1, a1, a2, a3, a4, a5⟩ := S11_rises ic.1 ic.2.1 hcn cR cC hp hg
  rw [← ep, ← eg] at a1
  obtain ⟨ic1, im1, iz1⟩ := iq1H ic im iz a2 (by decide) (by rw [a2.i 43 (by decide)]; exact ic.2.2.2.2.2.2.2.1) (a3 14 (by decide)) a4 a5
  refine ⟨_, M1, a1, iz1.1, fun w => ?_⟩
  obtain ⟨ic2, im2, iz2⟩ := out_i ic1 im1 iz1 w
  obtain ⟨M2, r', b1, b2, b3, b4, b5, b6, b7⟩ := SM_rises im2.1.1.1 im2.1.1.2.1 hcn cR cM x y
  rw [b7 p g hp hg ep eg] at b1
  exact ⟨M2, b1, by rw [b6, c2]; rfl, iq2 ic2 im2 aw iz2 b2 (by decide) (fun j hj => b3 j (by omega) (by omega) (by omega)) b4 b5, by rw [b2.j 119 (by decide)]; exact out_j⟩
theorem su_lasts (x y : Int32) : StU (fun M => okH M x y) (fun M => f11_lasts M 1 x y) (fun M => f12_lasts M 86 x y) := fun M hv => by
  refine ⟨fun c => ?_, (st_lasts x y M hv).2⟩
  obtain ⟨Q, o, nw, n, A, L, B, ar, d, a, f1, f2, ic, im, aw, iz⟩ := hv
  have eo : okH M x y = (ibx (pS Q.1) x && ibx (pG Q.1) y) := by
    unfold okH
    rw [okS_e ic.1, okG_e ic.1]
  obtain ⟨cn, hcn⟩ := CnOK_ex ic.1.2.1 o
  have c' : okH M x y = true := c
  rw [eo] at c'
  have c2 := c'
  rw [Bool.and_eq_true] at c'
  obtain ⟨p, hp, ep⟩ := ibx_out c'.1 (by have := ic.1.2.1.1; omega)
  obtain ⟨g, hg, eg⟩ := ibx_out c'.2 (by have := ic.1.2.1.2.1; omega)
  obtain ⟨M1, l, a1, al, a2, a3, a4, a5⟩ := S11_lasts ic.1 ic.2.1 hcn hp hg
  rw [← ep, ← eg] at a1
  obtain ⟨ic1, im1, iz1⟩ := iq1H ic im iz a2 (by decide) (by rw [a2.i 43 (by decide)]; exact ic.2.2.2.2.2.2.2.1) (a3 14 (by decide)) a4 a5
  refine ⟨_, M1, a1, iz1.1, fun w => ?_⟩
  obtain ⟨ic2, im2, iz2⟩ := out_i ic1 im1 iz1 w
  obtain ⟨M2, r', b1, b2, b3, b4, b5, b6, b7⟩ := SM_lasts im2.1.1.1 im2.1.1.2.1 hcn x y
  rw [b7 p g l hp hg ep eg al] at b1
  exact ⟨M2, b1, by rw [b6, c2]; rfl, iq2 ic2 im2 aw iz2 b2 (by decide) (fun j hj => b3 j (by omega) (by omega) (by omega)) b4 b5, by rw [b2.j 119 (by decide)]; exact out_j⟩
theorem Inv.kP {M : MM} (h : Inv M) : (mK M (mR M 1 10)).1 = 7 + 3 := by
  obtain ⟨Q, o, nw, n, A, L, B, ar, d, a, f1, f2, ic, im, aw, iz⟩ := h
  have w := ic.1.1
  obtain ⟨b, b1, b2, b3⟩ := ic.1.2.2.2.1
  rw [b1]
  rcases b3.1 with e | e <;> subst e
  · rw [w.1 4 (by decide)]
    rfl
  · rw [w.1 13 (by decide)]
    rfl
end OUTX
section LAWX
def LE (κ : LC) : Prop := match κ with
  | (_, l, _, s, _, _, _, _, _) => l.stackTraces = false ∧ ∃ sa, ExH (fun q => s.heap.size ≤ q) sa s
def CHw (idx : Nat) (j : MI) (to tg n : Nat) : Prop := Cond.methodLink "CallStepsLaw" idx (iy j) ∈ gT ∧ Cond.codeWith (iy j) (ib j) (iL j) (ir j) [(0, to, tg, 13)] ∈ gT ∧ Cond.initialized (iy j).cls ∈ gT ∧ ((iy j).cls ≠ "java/lang/invoke/MethodHandle" ∧ (iy j).cls ≠ "java/lang/invoke/VarHandle" ∧ (parseMethodDescriptor (iy j).desc).map (fun d => d.parameters.length) = some n) ∧ Cond.static (iy j) ∈ gT
theorem ch_91 : CHw 91 hl_pops 11 14 5 := ⟨List.mem_filter.mpr ⟨by decide +kernel, rfl⟩, List.mem_filter.mpr ⟨by decide +kernel, rfl⟩, List.mem_filter.mpr ⟨by decide +kernel, rfl⟩, by decide +kernel, List.mem_filter.mpr ⟨by decide +kernel, rfl⟩⟩
theorem ch_114 : CHw 114 hl_rises 10 13 4 := ⟨List.mem_filter.mpr ⟨by decide +kernel, rfl⟩, List.mem_filter.mpr ⟨by decide +kernel, rfl⟩, List.mem_filter.mpr ⟨by decide +kernel, rfl⟩, by decide +kernel, List.mem_filter.mpr ⟨by decide +kernel, rfl⟩⟩
theorem ch_118 : CHw 118 hl_lasts 10 13 4 := ⟨List.mem_filter.mpr ⟨by decide +kernel, rfl⟩, List.mem_filter.mpr ⟨by decide +kernel, rfl⟩, List.mem_filter.mpr ⟨by decide +kernel, rfl⟩, by decide +kernel, List.mem_filter.mpr ⟨by decide +kernel, rfl⟩⟩
theorem wsH_good {j : MI} {to tg : Nat} (h : Cond.codeWith (iy j) (ib j) (iL j) (ir j) [(0, to, tg, 13)] ∈ gT) : GoodIn gT (wsH j to tg) := fun w hw => (List.mem_cons.mp hw).elim (fun e => e ▸ gT_good _ h) (gT_good w)
variable {κ : LC} {L : Nat} {xs : Nat → Int32} {pc k n : Nat} {lv : List (Nat × AV)} {st : List AV} {M : MM}
theorem LX_callH (C0 : LA κ L xs) (hE : LE κ) {idx to tg : Nat} {j : MI} {as st1 : List AV} {x : Option AV × MM} {mc ms : Nat} (k' n' : Nat) (hd : decode code pc = .ok (.invokestatic idx, 3)) (hc : CHw idx j to tg as.length) (hr : ifr j + 1 ≤ 11 ∧ 8 + (iL j + 11) + ilo j ≤ 450) (he : as.reverse ++ st = st1) (h8 : ct st ≤ 8) (hO : OK M lv st1) (hH : HMet j to tg as M x mc ms) (e1 : mz M - 1 + k + mc = mz x.2 - 1 + k') (e2 : mn M + n + ms = mn x.2 + n') (hc1 : mz x.2 - 1 + k' ≤ 601024) (hs1 : mn x.2 + n' ≤ 7293034)
    (kk : Good M x → OK x.2 lv (x.1.toList ++ st) → LX κ (pc + 3) lv (x.1.toList ++ st) x.2 k' n') : LX κ pc lv st1 M k n := by
  subst he
  have hO1 : OK M lv st := ⟨hO.1, fun v hv => hO.2 v (List.mem_append_right _ hv)⟩
  obtain ⟨hg, hM⟩ := hH
  have m1 := hg.1.1
  have hO2 := OK_le m1 hO1
  have hO3 : OK x.2 lv (x.1.toList ++ st) := ⟨hO2.1, fun v hv => by
    rcases List.mem_append.mp hv with h | h
    · exact hg.2.2 v (by simpa using h)
    · exact hO2.2 v h⟩
  have kk' := kk hg hO3
  obtain ⟨p, l, e, s, m, below, meth, c, b⟩ := κ
  intro H locs ls cells slots G ad hw hl hcs hsl
  have S := sit_of C0
  obtain ⟨hst9, sa, hEx⟩ := hE
  obtain ⟨w1, w2, w3, w4, w5⟩ := hc
  have hf : ∀ q, va_A (wsOf G ad M) H.size q → s.heap.size ≤ q := fun q h => by
    rcases h with ⟨j, e, h⟩ | h
    · exact hw.2.2.1.2 j _ h
    · exact hw.2.2.2.2 q (Nat.le_trans hw.2.2.2.1.1 h)
  have hp : ∀ U : State, U.heap = H → s.WarmedH U.vm → PreX G ad M as H.size sa (as.map (rv ad)).toArray U := fun U hU hWm => ⟨⟨rfl, by rw [hU], hw.1.moved hWm, by rw [hU]; exact hw.2.1, hw.2.2.1.weaken (fun _ _ _ _ => trivial)⟩, hEx.moved hw.2.2.2.1 hU hWm hf⟩
  have ht := S.2.2.2.2.1
  have cw : vx_CSW room_1 s #[Value.ref b] (iy (iLw meth.name)).cls idx (iy j) (ib j) (iL j) (ir j) [(0, to, tg, 13)] (wsH j to tg) (rmOf j mc ms) mc ms as.length :=
    ⟨⟨rfl, rfl, hr.1, hr.2, pay_in ht (wsH_good w2), List.mem_cons_self⟩, ht _ w2, ht _ w3, ⟨w4.1, w4.2.1⟩, fun sig h => by
      have h2 := w4.2.2
      rw [h] at h2
      exact (Option.some.inj h2).symm, ht _ w1, ht _ w5⟩
  have e3 : cells + mc = mz x.2 - 1 + k' := by omega
  have e4 : slots + ms = mn x.2 + n' := by omega
  refine law_back hw hl hO1 hg.1 (vx_runSW (As := as.map (rv ad)) (rest := st.map (rv ad)) (fix_of S) (hM l G ad H.size sa hst9) cw ⟨PreX.blind, hp⟩ rfl (by simp) hl.1 (by rw [List.map_append, List.map_reverse]) (lv_room (by rw [ct_sum]; exact h8)) hd ⟨by rw [e3]; exact hc1, by rw [e4]; exact hs1⟩) (fun H' locs' ad' hw' hl' => ?_)
  exact kk' H' locs' ls _ _ G ad' hw' hl' e3 e4
theorem LX_sub {lv' : List (Nat × AV)} (ks : List Nat) (h : ks.filterMap (fun k => lv[k]?) = lv') (kk : LX κ pc lv' st M k n) : LX κ pc lv st M k n := by
  have hm : ∀ q ∈ lv', q ∈ lv := fun q hq => by
    rw [← h] at hq
    obtain ⟨k, -, hk⟩ := List.mem_filterMap.mp hq
    exact List.mem_of_getElem? hk
  obtain ⟨p, l, e, s, m, below, meth, c, b⟩ := κ
  intro H locs ls cells slots G ad hw hl hc hs
  refine kk H locs ls cells slots G ad hw ⟨hl.1, hl.2.1, fun q hq => ?_⟩ hc hs
  rcases List.mem_append.mp hq with hq | hq
  · obtain ⟨q0, h1, h2⟩ := List.mem_map.mp hq
    exact hl.2.2 q (List.mem_append_left _ (List.mem_map.mpr ⟨q0, hm q0 h1, h2⟩))
  · exact hl.2.2 q (List.mem_append_right _ hq)
/-- what the law keeps in its own cell -/
theorem LX_out (C0 : LA κ L xs) (t : Nat) (hK : mK M 119 = (1, 1)) (hW : WF M) (hl : lv[t]? = some (3, vr 119)) (d0 : decode code pc = .ok (.aload_n 3, 1)) (d1 : decode code (pc + 1) = .ok (.iconst 0, 1)) (d2 : decode code (pc + 2) = .ok (.laload, 1)) (kk : LX κ (pc + 3) lv (vl (mJ M 119 0) :: st) M k n) : LX κ pc lv st M k n := by
  refine LX_aload C0 t d0 hl ?_
  refine LX_iconst C0 d1 k_i_0 ?_
  obtain ⟨p, l, e, s, m, below, meth, c, b⟩ := κ
  intro H locs ls cells slots G ad hw h hc hs
  have S := sit_of C0
  obtain ⟨a0, a1⟩ := hW.alive (a := 119) (by rw [hK]; decide)
  have he := ws_get (G := G) (ad := ad) a0 a1
  rw [cO_long (by rw [hK])] at he
  show W p l e room_1 s m #[Value.ref b] below meth c H locs cells slots _ (F0 m (pc + 2) ls (.int 0 :: rr ad 119 :: _))
  rw [rr_ne a0]
  exact va_lald S.1 S.2.1 hw.1.1 hw.2.1 (119 - 1) 1 he rfl (by rw [hK]; show ¬ ((0 : Int32) < 0 ∨ 1 ≤ (0 : Int32).toNatClampNeg); decide) d2 (kk H locs ls cells slots G ad hw h hc hs)
theorem OK_cons {q : Nat} {v : AV} (h : OK M lv st) (hv : okv M v) : OK M ((q, v) :: lv) st := ⟨fun z hz => by
  rcases List.mem_cons.mp hz with e | e
  · rw [e]
    exact hv
  · exact h.1 z e, h.2⟩
end LAWX
