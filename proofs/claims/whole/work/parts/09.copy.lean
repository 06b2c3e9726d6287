/-! System.arraycopy and an end with a reference -/
def sIr (M : MM) (a : Nat) (g : Nat → Int32) : MM := (upr (mI M) a g, M.2)
def sJr (M : MM) (a : Nat) (g : Nat → Int64) : MM := (M.1, upr (mJ M) a g, M.2.2)
abbrev cpyOk (M : MM) (a0 a : Nat) (sp dp n : Int32) : Prop := ¬ sp < 0 ∧ ¬ dp < 0 ∧ ¬ n < 0 ∧ sp.toNatClampNeg + n.toNatClampNeg ≤ (mK M a0).2 ∧ dp.toNatClampNeg + n.toNatClampNeg ≤ (mK M a).2
theorem w_copy : Cond.methodLink "java/util/Arrays" 150 arraycopyName ∈ gT ∧ Cond.native arraycopyName ∈ gT ∧ Cond.static arraycopyName ∈ gT ∧ Cond.initialized "java/lang/System" ∈ gT := ⟨(gk5 122 rfl rfl), (gk5 124 rfl rfl), (gk5 123 rfl rfl), (gk1 21 rfl rfl)⟩
section
variable {β : Type} {L : β → Option AV × MM} {i : MI} {pc : Nat} {lv : List (Nat × AV)} {st : List AV} {M : MM} {o : Option β}
theorem X_copyI {a0 a : Nat} {sp dp n : Int32} {k : MM → Option β} (hi : (iy i).cls = "java/util/Arrays") (hd : decode (ib i) pc = .ok (.invokestatic 150, 3)) (hr : 1 ≤ ifr i ∧ 60 ≤ ilo i) (h8 : ct st ≤ 8)
    (kk : ∀ M1, X L i (pc + 3) lv st M1 (k M1)) : X L i pc lv (vi n :: vi dp :: vr a :: vi sp :: vr a0 :: st) M (aL M a0 0 (aL M a 0 (gd (cpyOk M a0 a sp dp n) (bM (sIr M a (va_cpy (mI M a0) (mI M a) sp.toNatClampNeg dp.toNatClampNeg n.toNatClampNeg)) k)))) := by
  refine X_aL fun hK0 => X_aL fun hK => X_gd fun hc => ?_
  intro q hq hW hO
  obtain ⟨h1, h2⟩ := kk _ q hq hW ⟨hO.1, fun v hv => hO.2 v (by simp [hv])⟩
  refine ⟨h1, ?_⟩
  intro p l e R s m args below meth c H locs ls cells slots A G ad nn S hw hl hn hcs hs2
  obtain ⟨b0, b1⟩ := hW.alive (a := a0) (by omega)
  obtain ⟨b2, b3⟩ := hW.alive (a := a) (by omega)
  show W p l e R s m args below meth c H locs cells slots _ (F0 m pc ls (.int n :: .int dp :: rr ad a :: .int sp :: rr ad a0 :: _))
  rw [rr_ne b0, rr_ne b2]
  have e0 := ws_get (G := G) (ad := ad) b0 b1
  have e1 := ws_get (G := G) (ad := ad) b2 b3
  rw [cO_int hK0] at e0
  rw [cO_int hK] at e1
  refine va_copyi S.1 S.2.1 (S.2.2.1.trans hl.1.symm) (own := "java/util/Arrays") (hi ▸ S.2.2.2.1) (S.2.2.2.2.1 _ w_copy.1) (S.2.2.2.2.1 _ w_copy.2.1) (S.2.2.2.2.1 _ w_copy.2.2.1) (S.2.2.2.2.1 _ w_copy.2.2.2) hw.1.1 hw.2.1 hw.2.2.1 hw.2.2.2.1 (a0 - 1) (a - 1) 0 0 e0 e1 (ty := .int) rfl rfl rfl hc.1 hc.2.1 hc.2.2.1 hc.2.2.2.1 hc.2.2.2.2 (fun _ _ => rfl) (Nat.le_trans hr.1 S.2.2.2.2.2.2.2.2.1) (by
    have := S.2.2.2.2.2.2.2.2.2
    rw [ct_sum]
    have : nativeFrameWords "java/lang/System" "arraycopy" 5 + 11 ≤ 52 := by decide +kernel
    omega) hd fun H1 locs1 hP hD hS => ?_
  have e2 : cO G ad (sIr M a (va_cpy (mI M a0) (mI M a) sp.toNatClampNeg dp.toNatClampNeg n.toNatClampNeg)) a = .inl (G.2.1, (mK M a).2, .inl (va_cpy (mI M a0) (mI M a) sp.toNatClampNeg dp.toNatClampNeg n.toNatClampNeg)) := by
    rw [cO_int (M := sIr M a _) hK]
    show Sum.inl (_, _, Sum.inl (mI (sIr M a _) a)) = _
    rw [show mI (sIr M a (va_cpy (mI M a0) (mI M a) sp.toNatClampNeg dp.toNatClampNeg n.toNatClampNeg)) a = _ from upr_same _ _ _]
    rfl
  rw [← e2] at hP hD
  rw [ws_set (M := M) (M' := sIr M a (va_cpy (mI M a0) (mI M a) sp.toNatClampNeg dp.toNatClampNeg n.toNatClampNeg)) b2 rfl (fun r hr => cO_congr rfl (upr_ne _ _ hr) rfl rfl)] at hP hD
  exact h2 p l e R s m args below meth c H1 locs1 ls cells slots A G ad nn S ⟨hw.1, hP, hD, hS, hw.2.2.2.2⟩ hl hn hcs hs2
theorem X_copyJ {a0 a : Nat} {sp dp n : Int32} {k : MM → Option β} (hi : (iy i).cls = "java/util/Arrays") (hd : decode (ib i) pc = .ok (.invokestatic 150, 3)) (hr : 1 ≤ ifr i ∧ 60 ≤ ilo i) (h8 : ct st ≤ 8)
    (kk : ∀ M1, X L i (pc + 3) lv st M1 (k M1)) : X L i pc lv (vi n :: vi dp :: vr a :: vi sp :: vr a0 :: st) M (aL M a0 1 (aL M a 1 (gd (cpyOk M a0 a sp dp n) (bM (sJr M a (va_cpy (mJ M a0) (mJ M a) sp.toNatClampNeg dp.toNatClampNeg n.toNatClampNeg)) k)))) := by
  refine X_aL fun hK0 => X_aL fun hK => X_gd fun hc => ?_
  intro q hq hW hO
  obtain ⟨h1, h2⟩ := kk _ q hq hW ⟨hO.1, fun v hv => hO.2 v (by simp [hv])⟩
  refine ⟨h1, ?_⟩
  intro p l e R s m args below meth c H locs ls cells slots A G ad nn S hw hl hn hcs hs2
  obtain ⟨b0, b1⟩ := hW.alive (a := a0) (by omega)
  obtain ⟨b2, b3⟩ := hW.alive (a := a) (by omega)
  show W p l e R s m args below meth c H locs cells slots _ (F0 m pc ls (.int n :: .int dp :: rr ad a :: .int sp :: rr ad a0 :: _))
  rw [rr_ne b0, rr_ne b2]
  have e0 := ws_get (G := G) (ad := ad) b0 b1
  have e1 := ws_get (G := G) (ad := ad) b2 b3
  rw [cO_long hK0] at e0
  rw [cO_long hK] at e1
  refine va_copyl S.1 S.2.1 (S.2.2.1.trans hl.1.symm) (own := "java/util/Arrays") (hi ▸ S.2.2.2.1) (S.2.2.2.2.1 _ w_copy.1) (S.2.2.2.2.1 _ w_copy.2.1) (S.2.2.2.2.1 _ w_copy.2.2.1) (S.2.2.2.2.1 _ w_copy.2.2.2) hw.1.1 hw.2.1 hw.2.2.1 hw.2.2.2.1 (a0 - 1) (a - 1) 1 1 e0 e1 (ty := .long) rfl rfl rfl hc.1 hc.2.1 hc.2.2.1 hc.2.2.2.1 hc.2.2.2.2 (fun _ _ => rfl) (Nat.le_trans hr.1 S.2.2.2.2.2.2.2.2.1) (by
    have := S.2.2.2.2.2.2.2.2.2
    rw [ct_sum]
    have : nativeFrameWords "java/lang/System" "arraycopy" 5 + 11 ≤ 52 := by decide +kernel
    omega) hd fun H1 locs1 hP hD hS => ?_
  have e2 : cO G ad (sJr M a (va_cpy (mJ M a0) (mJ M a) sp.toNatClampNeg dp.toNatClampNeg n.toNatClampNeg)) a = .inl (G.2.2.1, (mK M a).2, .inr (.inl (va_cpy (mJ M a0) (mJ M a) sp.toNatClampNeg dp.toNatClampNeg n.toNatClampNeg))) := by
    rw [cO_long (M := sJr M a _) hK]
    show Sum.inl (_, _, Sum.inr (Sum.inl (mJ (sJr M a _) a))) = _
    rw [show mJ (sJr M a (va_cpy (mJ M a0) (mJ M a) sp.toNatClampNeg dp.toNatClampNeg n.toNatClampNeg)) a = _ from upr_same _ _ _]
    rfl
  rw [← e2] at hP hD
  rw [ws_set (M := M) (M' := sJr M a (va_cpy (mJ M a0) (mJ M a) sp.toNatClampNeg dp.toNatClampNeg n.toNatClampNeg)) b2 rfl (fun r hr => cO_congr rfl rfl (upr_ne _ _ hr) rfl)] at hP hD
  exact h2 p l e R s m args below meth c H1 locs1 ls cells slots A G ad nn S ⟨hw.1, hP, hD, hS, hw.2.2.2.2⟩ hl hn hcs hs2
theorem X_areturn {a : Nat} {b : β} {rt : FieldType} (hd : decode (ib i) pc = .ok (.areturn, 1)) (hri : ir i = some rt) (hrt : (∃ n, rt = .object n) ∨ ∃ t, rt = .array t) (hL : L b = (some (vr a), M)) : X L i pc lv [vr a] M (some b) :=
  X_end hL (fun v hv => by cases hv; exact List.mem_cons_self) (fun p l e R s m args below meth c H locs ls cells slots A G ad Qc S hq hf => W.aret S.1 S.2.1 (S.2.2.2.2.2.2.1.trans hri) hrt (by show rr ad a = .null ∨ ∃ x, rr ad a = .ref x; unfold rr; split <;> simp) (fun t ht _ => hq t ht) hf hd S.2.2.2.2.2.1)
end
