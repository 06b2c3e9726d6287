/-! COSTS: the reference's own calls, and that both answer alike -/
section COSTM
variable {M : MM} {P : PG} {o : Nat} {nw : NW}
theorem th_sm {M : MM} {v : Int32} : Sm [86] [] M (sI M 86 0 v) := (Sm.rfl _ _ M).uI _ (by decide)
theorem th_f {M : MM} {v : Int32} {j : Nat} (hj : j ≠ 0) : mI (sI M 86 0 v) 86 j = mI M 86 j := by
  rw [mI_sI, if_neg (fun q => hj q.2)]
theorem CoM.th (h : CoM M P o nw) (v : Int32) : CoM (sI M 86 0 v) P o nw := h.sm th_sm (th_f (by decide)) (fun j _ _ => th_f (by omega)) h.2.2.2.2.2.2 (by decide)
theorem ToldOK.th (h : ToldOK M P o) (v : Int32) : ToldOK (sI M 86 0 v) P o := by
  unfold ToldOK at *
  rw [th_f (by decide)]
  exact h
theorem SM_told2 (h : CoM M P o nw) (ht : ToldOK M P o) : ∃ M' F gg, f12_layTold M 86 = some M' ∧ Sm [86, 95, 96, 97, 98] [99] M M' ∧ (∀ j, j ≠ 30 → j ≠ 31 → mI M' 86 j = mI M 86 j) ∧ TgM M' (gTG P) ∧ mI M' 86 31 = 1 ∧ mJ M' 99 = mjR F gg ∧ Net P o (gTG P) F ∧ CoM M' P o nw ∧ ToldOK M' P o := by
  obtain ⟨w, hp, ho, a4, a5, a6, a7⟩ := h
  obtain ⟨M', F, gg, b1, b2, b3, b4, b5, b6, b7⟩ := SM_layTold w a4 hp (o_lt ho) a7 ht
  exact ⟨M', F, gg, b1, b2, b3, b4, b5, b6, b7, CoM.sm ⟨w, hp, ho, a4, a5, a6, a7⟩ b2 (b3 5 (by decide) (by decide)) (fun j _ _ => b3 j (by omega) (by omega)) b4.2.2.1 (by decide), .inr b5, fun _ => ⟨F, gg, b6, b7⟩⟩
theorem SM_costN {p H : Nat} {s : Nat → Nat} {oa : Nat} (h : CoM M P o (some (p, H, s))) (ha : OfA oa) {T : TG} (hT : TgM M T) {F : Nat → Nat} {gg : Nat → Int64} (hF : mJ M oa = mjR F gg) (bF : Bd 630 F) : ∃ Ab, f12_costNow M 86 oa = some (mjv (val 21 (e21 T (DX M T) F) (z21 T) s H p), uJ M 101 Ab) ∧ RwM (e21 T (DX M T) F) (z21 T) s Ab (H + 1) := by
  obtain ⟨w, hp, ho, a4, a5, a6, a7⟩ := h
  obtain ⟨b1, b2, b3, b4⟩ := a5
  have c1 : p < pS P := a6.1
  have c2 : H ≤ 40 := a6.2.1
  have p5 := hp.1
  exact SM_costNow w ha hT hF bF (by omega) b2 b3 c2 (fun i hi => ⟨b4 i hi, Nat.lt_of_lt_of_le (a6.2.2 i hi) hp.2.1⟩)
theorem Net.bd {P : PG} {o : Nat} {T : TG} {F : Nat → Nat} (h : Net P o T F) : Bd 630 F := h.1.1
theorem SM_costR {p H : Nat} {s : Nat → Nat} (h : CoM M P o (some (p, H, s))) (ht : ToldOK M P o) : ∃ M' F gg, f12_cost M 86 = some (mjv (val 21 (e21 (gTG P) (DX M' (gTG P)) F) (z21 (gTG P)) s H p), M') ∧ Sm [86, 95, 96, 97, 98] [99, 101] M M' ∧ (∀ j, j ≠ 0 → j ≠ 30 → j ≠ 31 → mI M' 86 j = mI M 86 j) ∧ TgM M' (gTG P) ∧ mJ M' 99 = mjR F gg ∧ Net P o (gTG P) F ∧ CoM M' P o (some (p, H, s)) ∧ ToldOK M' P o ∧ RwM (e21 (gTG P) (DX M' (gTG P)) F) (z21 (gTG P)) s (mJ M' 101) (H + 1) ∧ mI M' 86 0 = 0 := by
  obtain ⟨M1, F, gg, b1, b2, b3, b4, b5, b6, b7, b8, b9⟩ := SM_told2 (h.th 0) (ht.th 0)
  obtain ⟨Ab, c1, c2⟩ := SM_costN b8 (.inl rfl) b4 b6 b7.bd
  have w := h.1
  have w0 : Wl (sI M 86 0 0) := w
  have w1 := b8.1
  refine ⟨uJ M1 101 Ab, F, gg, ?_, ((th_sm.more (by decide) (by decide)).trans (b2.more (by decide) (by decide))).uJ _ (by decide), fun j q0 q1 q2 => ?_, TgM_J b4, ?_, b7, ?_, ?_, ?_, ?_⟩
  · unfold f12_cost
    rw [aO_86 w, bM_e, aO_86 w0, show mI (sI M 86 0 0) 86 19 = 1 from (th_f (by decide)).trans h.2.2.2.2.1.1, if_neg (by decide), aO_86 w0, b1, cV_some, aO_86 w1, aO_86 w1, r_86_28 w1, c1, cJ_some]
    rfl
  · rw [mI_uJ, b3 j q1 q2, th_f q0]
  · rw [mJ_uJ, if_neg (by decide)]
    exact b6
  · exact b8.sm (Is := []) (Js := [101]) ((Sm.rfl _ _ M1).uJ _ (by decide)) rfl (fun _ _ _ => rfl) b8.2.2.2.2.2.2 (by decide)
  · unfold ToldOK at *
    rw [mJ_uJ, if_neg (by decide)]
    exact b9
  · rw [mJ_uJ, if_pos rfl]
    exact c2
  · rw [mI_uJ, b3 0 (by decide) (by decide), mI_sI, if_pos ⟨rfl, rfl⟩]
theorem SM_cost0 (h : CoM M P o none) : f12_cost M 86 = some (-1, sI M 86 0 0) := by
  have w := h.1
  have w0 : Wl (sI M 86 0 0) := w
  unfold f12_cost
  rw [aO_86 w, bM_e, aO_86 w0, show mI (sI M 86 0 0) 86 19 = 0 from (th_f (by decide)).trans h.2.2.2.2.1, if_pos rfl]
/-- the two sides' costs of a place -/
theorem cost_eq {P : PG} {o : Nat} {T : TG} {D : Nat → Nat → Nat → Bool} (hp : WP P) (hT : okT (pG P) T) (hD : okD T D) {E R F s : Nat → Nat} (hE : Std P o T E R) (hF : Net P o T F) {H p : Nat} (hs : ∀ i, i < H → s i < pG P) (hp5 : p < pS P) :
    val 15 (eC E) (z15 T) s H p = val 21 (e21 T D F) (z21 T) s H p := cost_same hp hT hD hE.2.1 hE.2.2.1 hF hs (Nat.lt_of_lt_of_le hp5 hp.1)
/-- the cost of a place, and both sides tell it -/
def costN (P : PG) (o : Nat) (T : TG) (nw : NW) (v : Nat) : Prop := v ≤ FARN ∧ match nw with
  | none => v = FARN
  | some q => (∀ E R, Std P o T E R → v = val 15 (eC E) (z15 T) q.2.2 q.2.1 q.1) ∧ ∀ F D, Net P o T F → okD T D → v = val 21 (e21 T D F) (z21 T) q.2.2 q.2.1 q.1
theorem z15_far (T : TG) (x : Nat) : z15 T x ≤ FARN := by
  unfold z15
  split
  · exact Nat.zero_le _
  · exact Nat.le_refl _
theorem Std_ex {P : PG} (hp : WP P) (o : Nat) (T : TG) : ∃ E R, Std P o T E R := by
  obtain ⟨L, hL⟩ := GC_exists (n := 15) (I := allS (pG P) T) (D := D15 (pG P) T) (P := P) (o := o) hp (by omega)
  refine ⟨fun i => if i < 450 then L i else if allS (pG P) T i then 0 else FARN, z15 T, fun i hi => ?_, GC_cg hp (by omega) (fun e he => if_pos he) hL, fun y g x h5 hy hg hx => ?_, fun _ _ => rfl⟩
  · show (if i < 450 then L i else if allS (pG P) T i then 0 else FARN) ≤ FARN
    split
    · exact hL.1.1 i (by assumption)
    · split
      · exact Nat.zero_le _
      · exact Nat.le_refl _
  · show (if ix 15 y g x < 450 then _ else _) = _
    rw [if_neg (Nat.not_lt.mpr (ix_450 h5))]
    rfl
theorem Net_ex {P : PG} (hp : WP P) (o : Nat) (T : TG) : ∃ F, Net P o T F := GC_exists hp (by omega)
theorem costN_ex (hp : WP P) (hw : WN P nw) (o : Nat) {T : TG} (hT : okT (pG P) T) : ∃ v, costN P o T nw v := by
  rcases nw with _ | ⟨p, H, s⟩
  · exact ⟨FARN, Nat.le_refl _, rfl⟩
  · obtain ⟨E, R, hE⟩ := Std_ex hp o T
    obtain ⟨F, hF⟩ := Net_ex hp o T
    obtain ⟨w1, w2, w3⟩ := hw
    have p5 := hp.1
    have b : val 15 (eC E) (z15 T) s H p ≤ FARN := val_far (fun x _ => z15_far T x) H p (by have : p < pS P := w1; omega)
    refine ⟨val 15 (eC E) (z15 T) s H p, b, fun E' R' h' => ?_, fun F' D' h' hD' => cost_eq hp hT hD' hE h' w3 w1⟩
    show _ = val 15 (eC E') (z15 T) s H p
    rw [cost_eq hp hT (okD_T T) hE hF w3 w1, cost_eq hp hT (okD_T T) h' hF w3 w1]
theorem S11_cost2 (h : CoC M P o nw) (hc : CostC M P o) {v : Nat} (hv : costN P o (gTG P) nw v) : ∃ M', f11_cost M 1 = some (mjv v, M') ∧ Sm [1] [34, 36] M M' ∧ (∀ j, j ≠ 13 → mI M' 1 j = mI M 1 j) ∧ CoC M' P o nw ∧ CostC M' P o := by
  obtain ⟨M', r, a1, a2, a3, a4, a5, a6⟩ := S11_cost h hc
  refine ⟨M', ?_, a2, a3, h.sm a2 (a3 12 (by decide)) (by decide), a4⟩
  rcases nw with _ | ⟨p, H, s⟩
  · rw [a1, a5 rfl, hv.2, mjv_far]
  · obtain ⟨E, R, b1, b2⟩ := a6 p H s rfl
    rw [a1, b2, hv.2.1 E R b1]
theorem SM_cost2 (h : CoM M P o nw) (ht : ToldOK M P o) {v : Nat} (hv : costN P o (gTG P) nw v) : ∃ M', f12_cost M 86 = some (mjv v, M') ∧ Sm [86, 95, 96, 97, 98] [99, 101] M M' ∧ (∀ j, j ≠ 0 → j ≠ 30 → j ≠ 31 → mI M' 86 j = mI M 86 j) ∧ CoM M' P o nw ∧ ToldOK M' P o ∧ mI M' 86 0 = 0 := by
  rcases nw with _ | ⟨p, H, s⟩
  · rw [SM_cost0 h, hv.2, mjv_far]
    exact ⟨_, rfl, th_sm.more (by decide) (by decide), fun j q _ _ => th_f q, h.th 0, ht.th 0, by rw [mI_sI, if_pos ⟨rfl, rfl⟩]⟩
  · obtain ⟨M', F, gg, a1, a2, a3, a4, a5, a6, a7, a8, a9, a10⟩ := SM_costR h ht
    rw [a1, ← hv.2.2 F _ a6 (okD_X a4)]
    exact ⟨M', rfl, a2, a3, a7, a8, a10⟩
end COSTM
