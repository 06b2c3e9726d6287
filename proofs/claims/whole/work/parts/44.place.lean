/-! A PLACE OF THE CLASS -/
def pcl (a : Nat) : Nat := if a = 43 then 140 else 40
def PlA (a : Nat) : Prop := a = 23 ∨ a = 26 ∨ a = 43
section PLC
variable {M : MM} {a : Nat}
theorem Pl.o (w : Wl M) (h : PlA a) {β : Type} {o : Option β} : aO M a 6 o = o := by
  rcases h with rfl | rfl | rfl
  · exact aO_23 w
  · exact aO_26 w
  · exact aO_43 w
theorem Pl.o1 (w : Wl M) (h : PlA a) {β : Type} {o : Option β} : aO M (a + 1) 3 o = o := by
  rcases h with rfl | rfl | rfl
  · exact aO_24 w
  · exact aO_27 w
  · exact aO_44 w
theorem Pl.r (w : Wl M) (h : PlA a) : mR M a 1 = a + 1 := by
  rcases h with rfl | rfl | rfl
  · exact r_23_1 w
  · exact r_26_1 w
  · exact r_43_1 w
theorem Pl.get (w : Wl M) (h : PlA a) (x : Int32) : f3_get M (a + 1) x = some (gI (mI M (a + 2)) (pcl a) x, M) := by
  rcases h with rfl | rfl | rfl
  · exact g_24 w x
  · exact g_27 w x
  · exact g_44 w x
theorem Pl.set (w : Wl M) (h : PlA a) (x v : Int32) : f3_set M (a + 1) x v = some (uI M (a + 2) (pI (mI M (a + 2)) (pcl a) x v)) := by
  rcases h with rfl | rfl | rfl
  · exact s_24 w x v
  · exact s_27 w x v
  · exact s_44 w x v
theorem pcl_lt (a : Nat) : pcl a ≤ 140 := by unfold pcl; split <;> omega
theorem S6_signAt (w : Wl M) (h : PlA a) {i : Nat} (hi : i < pcl a) : f6_signAt M a (nI i) = some (mI M (a + 2) i, M) := by
  have := pcl_lt a
  unfold f6_signAt
  rw [Pl.o w h, Pl.r w h, Pl.o1 w h, Pl.get w h, cI_some, gI_in hi (by omega)]
end PLC
