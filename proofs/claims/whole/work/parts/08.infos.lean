/-! printed by program: methods, fields by pool numbers, calls, constants -/
theorem gk1 {w : Cond} (i : Nat) (h : tables_1_1[i]? = some w) (g : goodWord w = true) : w ∈ gT := List.mem_filter.mpr ⟨List.mem_append_right _ (have h := List.mem_of_getElem? h; (List.mem_append_left _ h : w ∈ tables_1)), g⟩
theorem gk2 {w : Cond} (i : Nat) (h : tables_1_2[i]? = some w) (g : goodWord w = true) : w ∈ gT := List.mem_filter.mpr ⟨List.mem_append_right _ (have h := List.mem_of_getElem? h; (List.mem_append_right _ (List.mem_append_left _ h) : w ∈ tables_1)), g⟩
theorem gk3 {w : Cond} (i : Nat) (h : tables_1_3[i]? = some w) (g : goodWord w = true) : w ∈ gT := List.mem_filter.mpr ⟨List.mem_append_right _ (have h := List.mem_of_getElem? h; (List.mem_append_right _ (List.mem_append_right _ (List.mem_append_left _ h)) : w ∈ tables_1)), g⟩
theorem gk4 {w : Cond} (i : Nat) (h : tables_1_4[i]? = some w) (g : goodWord w = true) : w ∈ gT := List.mem_filter.mpr ⟨List.mem_append_right _ (have h := List.mem_of_getElem? h; (List.mem_append_right _ (List.mem_append_right _ (List.mem_append_right _ (List.mem_append_left _ h))) : w ∈ tables_1)), g⟩
theorem gk5 {w : Cond} (i : Nat) (h : tables_1_5[i]? = some w) (g : goodWord w = true) : w ∈ gT := List.mem_filter.mpr ⟨List.mem_append_right _ (have h := List.mem_of_getElem? h; (List.mem_append_right _ (List.mem_append_right _ (List.mem_append_right _ (List.mem_append_right _ (List.mem_append_left _ h)))) : w ∈ tables_1)), g⟩
theorem gk6 {w : Cond} (i : Nat) (h : tables_1_6[i]? = some w) (g : goodWord w = true) : w ∈ gT := List.mem_filter.mpr ⟨List.mem_append_right _ (have h := List.mem_of_getElem? h; (List.mem_append_right _ (List.mem_append_right _ (List.mem_append_right _ (List.mem_append_right _ (List.mem_append_right _ (List.mem_append_left _ h))))) : w ∈ tables_1)), g⟩
theorem gk7 {w : Cond} (i : Nat) (h : tables_1_7[i]? = some w) (g : goodWord w = true) : w ∈ gT := List.mem_filter.mpr ⟨List.mem_append_right _ (have h := List.mem_of_getElem? h; (List.mem_append_right _ (List.mem_append_right _ (List.mem_append_right _ (List.mem_append_right _ (List.mem_append_right _ (List.mem_append_right _ (List.mem_append_left _ h)))))) : w ∈ tables_1)), g⟩
theorem gk8 {w : Cond} (i : Nat) (h : tables_1_8[i]? = some w) (g : goodWord w = true) : w ∈ gT := List.mem_filter.mpr ⟨List.mem_append_right _ (have h := List.mem_of_getElem? h; (List.mem_append_right _ (List.mem_append_right _ (List.mem_append_right _ (List.mem_append_right _ (List.mem_append_right _ (List.mem_append_right _ (List.mem_append_right _ (h))))))) : w ∈ tables_1)), g⟩
theorem gp1 {q : MethodName × Nat} (i : Nat) (h : lw_privs_1[i]? = some q) : Cond.selects q.1.cls q.1 q.1 ∈ gT := List.mem_filter.mpr ⟨List.mem_append_left _ (List.mem_map.mpr ⟨q, (have h := List.mem_of_getElem? h; (List.mem_append_left _ h : q ∈ lw_privs)), rfl⟩), rfl⟩
theorem gp2 {q : MethodName × Nat} (i : Nat) (h : lw_privs_2[i]? = some q) : Cond.selects q.1.cls q.1 q.1 ∈ gT := List.mem_filter.mpr ⟨List.mem_append_left _ (List.mem_map.mpr ⟨q, (have h := List.mem_of_getElem? h; (List.mem_append_right _ (List.mem_append_left _ h) : q ∈ lw_privs)), rfl⟩), rfl⟩
theorem gp3 {q : MethodName × Nat} (i : Nat) (h : lw_privs_3[i]? = some q) : Cond.selects q.1.cls q.1 q.1 ∈ gT := List.mem_filter.mpr ⟨List.mem_append_left _ (List.mem_map.mpr ⟨q, (have h := List.mem_of_getElem? h; (List.mem_append_right _ (List.mem_append_right _ (List.mem_append_left _ h)) : q ∈ lw_privs)), rfl⟩), rfl⟩
theorem gp4 {q : MethodName × Nat} (i : Nat) (h : lw_privs_4[i]? = some q) : Cond.selects q.1.cls q.1 q.1 ∈ gT := List.mem_filter.mpr ⟨List.mem_append_left _ (List.mem_map.mpr ⟨q, (have h := List.mem_of_getElem? h; (List.mem_append_right _ (List.mem_append_right _ (List.mem_append_right _ (List.mem_append_left _ h))) : q ∈ lw_privs)), rfl⟩), rfl⟩
theorem gp5 {q : MethodName × Nat} (i : Nat) (h : lw_privs_5[i]? = some q) : Cond.selects q.1.cls q.1 q.1 ∈ gT := List.mem_filter.mpr ⟨List.mem_append_left _ (List.mem_map.mpr ⟨q, (have h := List.mem_of_getElem? h; (List.mem_append_right _ (List.mem_append_right _ (List.mem_append_right _ (List.mem_append_right _ (List.mem_append_left _ h)))) : q ∈ lw_privs)), rfl⟩), rfl⟩
theorem gp6 {q : MethodName × Nat} (i : Nat) (h : lw_privs_6[i]? = some q) : Cond.selects q.1.cls q.1 q.1 ∈ gT := List.mem_filter.mpr ⟨List.mem_append_left _ (List.mem_map.mpr ⟨q, (have h := List.mem_of_getElem? h; (List.mem_append_right _ (List.mem_append_right _ (List.mem_append_right _ (List.mem_append_right _ (List.mem_append_right _ (List.mem_append_left _ h))))) : q ∈ lw_privs)), rfl⟩), rfl⟩
theorem gp7 {q : MethodName × Nat} (i : Nat) (h : lw_privs_7[i]? = some q) : Cond.selects q.1.cls q.1 q.1 ∈ gT := List.mem_filter.mpr ⟨List.mem_append_left _ (List.mem_map.mpr ⟨q, (have h := List.mem_of_getElem? h; (List.mem_append_right _ (List.mem_append_right _ (List.mem_append_right _ (List.mem_append_right _ (List.mem_append_right _ (List.mem_append_right _ (List.mem_append_left _ h)))))) : q ∈ lw_privs)), rfl⟩), rfl⟩
theorem gp8 {q : MethodName × Nat} (i : Nat) (h : lw_privs_8[i]? = some q) : Cond.selects q.1.cls q.1 q.1 ∈ gT := List.mem_filter.mpr ⟨List.mem_append_left _ (List.mem_map.mpr ⟨q, (have h := List.mem_of_getElem? h; (List.mem_append_right _ (List.mem_append_right _ (List.mem_append_right _ (List.mem_append_right _ (List.mem_append_right _ (List.mem_append_right _ (List.mem_append_right _ (h))))))) : q ∈ lw_privs)), rfl⟩), rfl⟩
abbrev ushr (x y : Int32) : Int32 := (x.toUInt32 >>> (y.toUInt32 &&& Int32.toUInt32 31)).toInt32
abbrev shlL (x : Int64) (y : Int32) : Int64 := x <<< (y.toInt64 &&& 63)
theorem ing0 : ∀ w ∈ u_ws RX0 TX0 3, w ∈ gT := fun w h => List.mem_filter.mpr ⟨inX0 w h, List.all_eq_true.mp (show (u_ws RX0 TX0 3).all goodWord = true by decide +kernel) w h⟩
theorem ing1 : ∀ w ∈ u_ws RX1 TX1 2, w ∈ gT := fun w h => List.mem_filter.mpr ⟨inX1 w h, List.all_eq_true.mp (show (u_ws RX1 TX1 2).all goodWord = true by decide +kernel) w h⟩
theorem ing2 : ∀ w ∈ u_ws RX2 TX2 9, w ∈ gT := fun w h => List.mem_filter.mpr ⟨inX2 w h, List.all_eq_true.mp (show (u_ws RX2 TX2 9).all goodWord = true by decide +kernel) w h⟩
theorem ing3 : ∀ w ∈ u_ws RX3 TX3 1, w ∈ gT := fun w h => List.mem_filter.mpr ⟨inX3 w h, List.all_eq_true.mp (show (u_ws RX3 TX3 1).all goodWord = true by decide +kernel) w h⟩
theorem ing4 : ∀ w ∈ u_ws RX4 TX4 1, w ∈ gT := fun w h => List.mem_filter.mpr ⟨inX4 w h, List.all_eq_true.mp (show (u_ws RX4 TX4 1).all goodWord = true by decide +kernel) w h⟩
theorem ing5 : ∀ w ∈ u_ws RX5 TX5 18, w ∈ gT := fun w h => List.mem_filter.mpr ⟨inX5 w h, List.all_eq_true.mp (show (u_ws RX5 TX5 18).all goodWord = true by decide +kernel) w h⟩
theorem ing6 : ∀ w ∈ u_ws RX6 TX6 4, w ∈ gT := fun w h => List.mem_filter.mpr ⟨inX6 w h, List.all_eq_true.mp (show (u_ws RX6 TX6 4).all goodWord = true by decide +kernel) w h⟩
theorem ing7 : ∀ w ∈ u_ws RX7 TX7 8, w ∈ gT := fun w h => List.mem_filter.mpr ⟨inX7 w h, List.all_eq_true.mp (show (u_ws RX7 TX7 8).all goodWord = true by decide +kernel) w h⟩
theorem ing8 : ∀ w ∈ u_ws RX8 TX8 4, w ∈ gT := fun w h => List.mem_filter.mpr ⟨inX8 w h, List.all_eq_true.mp (show (u_ws RX8 TX8 4).all goodWord = true by decide +kernel) w h⟩
theorem ing9 : ∀ w ∈ u_ws RX9 TX9 7, w ∈ gT := fun w h => List.mem_filter.mpr ⟨inX9 w h, List.all_eq_true.mp (show (u_ws RX9 TX9 7).all goodWord = true by decide +kernel) w h⟩
theorem ing10 : ∀ w ∈ u_ws RX10 TX10 4, w ∈ gT := fun w h => List.mem_filter.mpr ⟨inX10 w h, List.all_eq_true.mp (show (u_ws RX10 TX10 4).all goodWord = true by decide +kernel) w h⟩
theorem ing11 : ∀ w ∈ u_ws RX11 TX11 15, w ∈ gT := fun w h => List.mem_filter.mpr ⟨inX11 w h, List.all_eq_true.mp (show (u_ws RX11 TX11 15).all goodWord = true by decide +kernel) w h⟩
theorem ing12 : ∀ w ∈ u_ws RX12 TX12 55, w ∈ gT := fun w h => List.mem_filter.mpr ⟨inX12 w h, List.all_eq_true.mp (show (u_ws RX12 TX12 55).all goodWord = true by decide +kernel) w h⟩
def iJ_bitCount : MI := (⟨"java/lang/Integer", "bitCount", "(I)I"⟩, prog_18_method_49_code, 1, (Option.some Jvm.ClassFile.FieldType.int), 0, 0)
def iJ_copyI : MI := (⟨"java/util/Arrays", "copyOf", "([II)[I"⟩, prog_24_method_123_code, 3, (Option.some (Jvm.ClassFile.FieldType.array Jvm.ClassFile.FieldType.int)), 1, 60)
def iJ_copyL : MI := (⟨"java/util/Arrays", "copyOf", "([JI)[J"⟩, prog_24_method_124_code, 3, (Option.some (Jvm.ClassFile.FieldType.array Jvm.ClassFile.FieldType.long)), 1, 60)
def iJ_fillI : MI := (⟨"java/util/Arrays", "fill", "([II)V"⟩, prog_24_method_103_code, 4, (Option.none : Option Jvm.ClassFile.FieldType), 0, 0)
def iJ_fillL : MI := (⟨"java/util/Arrays", "fill", "([JJ)V"⟩, prog_24_method_101_code, 5, (Option.none : Option Jvm.ClassFile.FieldType), 0, 0)
def i0_forget : MI := (⟨"CallSteps$Acts", "forget", "()V"⟩, prog_2_method_2_code, 1, (Option.none : Option Jvm.ClassFile.FieldType), 0, 0)
def i3_init : MI := (⟨"CallSteps$Ints", "<init>", "(I)V"⟩, prog_5_method_1_code, 2, (Option.none : Option Jvm.ClassFile.FieldType), 1, 20)
def i0_init : MI := (⟨"CallSteps$Acts", "<init>", "()V"⟩, prog_2_method_1_code, 1, (Option.none : Option Jvm.ClassFile.FieldType), 2, 41)
def i0_startOf : MI := (⟨"CallSteps$Acts", "startOf", "(I)I"⟩, prog_2_method_5_code, 2, (Option.some Jvm.ClassFile.FieldType.int), 0, 0)
def i3_set : MI := (⟨"CallSteps$Ints", "set", "(II)V"⟩, prog_5_method_3_code, 3, (Option.none : Option Jvm.ClassFile.FieldType), 0, 0)
def i3_get : MI := (⟨"CallSteps$Ints", "get", "(I)I"⟩, prog_5_method_2_code, 2, (Option.some Jvm.ClassFile.FieldType.int), 0, 0)
def i6_signAt : MI := (⟨"CallSteps$Place", "signAt", "(I)I"⟩, prog_8_method_5_code, 2, (Option.some Jvm.ClassFile.FieldType.int), 1, 21)
def i0_keep : MI := (⟨"CallSteps$Acts", "keep", "(LCallSteps$Place;I)V"⟩, prog_2_method_3_code, 5, (Option.none : Option Jvm.ClassFile.FieldType), 2, 42)
def i6_forget : MI := (⟨"CallSteps$Place", "forget", "()V"⟩, prog_8_method_3_code, 1, (Option.none : Option Jvm.ClassFile.FieldType), 0, 0)
def i6_push : MI := (⟨"CallSteps$Place", "push", "(I)V"⟩, prog_8_method_7_code, 2, (Option.none : Option Jvm.ClassFile.FieldType), 1, 22)
def i0_takeBack : MI := (⟨"CallSteps$Acts", "takeBack", "(LCallSteps$Place;)I"⟩, prog_2_method_4_code, 5, (Option.some Jvm.ClassFile.FieldType.int), 2, 43)
def i7_ofGoal : MI := (⟨"CallSteps$Program", "ofGoal", "(II)I"⟩, prog_9_method_10_code, 3, (Option.some Jvm.ClassFile.FieldType.int), 1, 21)
def i4_set : MI := (⟨"CallSteps$Longs", "set", "(IJ)V"⟩, prog_6_method_4_code, 4, (Option.none : Option Jvm.ClassFile.FieldType), 0, 0)
def i1_aimAtNothing : MI := (⟨"CallSteps$Costs", "aimAtNothing", "(I)V"⟩, prog_3_method_4_code, 2, (Option.none : Option Jvm.ClassFile.FieldType), 1, 23)
def i4_get : MI := (⟨"CallSteps$Longs", "get", "(I)J"⟩, prog_6_method_3_code, 2, (Option.some Jvm.ClassFile.FieldType.long), 0, 0)
def i1_lower : MI := (⟨"CallSteps$Costs", "lower", "(IIIJ)Z"⟩, prog_3_method_8_code, 7, (Option.some Jvm.ClassFile.FieldType.boolean), 1, 23)
def i1_aimAtHead : MI := (⟨"CallSteps$Costs", "aimAtHead", "(II)V"⟩, prog_3_method_5_code, 3, (Option.none : Option Jvm.ClassFile.FieldType), 2, 49)
def i1_aimAtGoal : MI := (⟨"CallSteps$Costs", "aimAtGoal", "(LCallSteps$Program;I)V"⟩, prog_3_method_6_code, 8, (Option.none : Option Jvm.ClassFile.FieldType), 3, 71)
def i7_ofRule : MI := (⟨"CallSteps$Program", "ofRule", "(II)I"⟩, prog_9_method_8_code, 3, (Option.some Jvm.ClassFile.FieldType.int), 1, 21)
def i1_left : MI := (⟨"CallSteps$Costs", "left", "(II)J"⟩, prog_3_method_14_code, 3, (Option.some Jvm.ClassFile.FieldType.long), 1, 21)
def i1_edge : MI := (⟨"CallSteps$Costs", "edge", "(III)J"⟩, prog_3_method_7_code, 4, (Option.some Jvm.ClassFile.FieldType.long), 1, 21)
def i4_sum : MI := (⟨"CallSteps$Longs", "sum", "(JJ)J"⟩, prog_6_method_1_code, 4, (Option.some Jvm.ClassFile.FieldType.long), 0, 0)
def i1_leftBy : MI := (⟨"CallSteps$Costs", "leftBy", "(III)J"⟩, prog_3_method_15_code, 9, (Option.some Jvm.ClassFile.FieldType.long), 2, 44)
def i1_behind : MI := (⟨"CallSteps$Costs", "behind", "(LCallSteps$Place;LCallSteps$Program;I)J"⟩, prog_3_method_16_code, 13, (Option.some Jvm.ClassFile.FieldType.long), 3, 72)
def i4_init : MI := (⟨"CallSteps$Longs", "<init>", "(I)V"⟩, prog_6_method_2_code, 2, (Option.none : Option Jvm.ClassFile.FieldType), 1, 20)
def i1_init : MI := (⟨"CallSteps$Costs", "<init>", "(I)V"⟩, prog_3_method_1_code, 2, (Option.none : Option Jvm.ClassFile.FieldType), 2, 41)
def i1_layRow : MI := (⟨"CallSteps$Costs", "layRow", "(II)V"⟩, prog_3_method_13_code, 4, (Option.none : Option Jvm.ClassFile.FieldType), 3, 72)
def i1_lowerThrough : MI := (⟨"CallSteps$Costs", "lowerThrough", "(IIIIJ)Z"⟩, prog_3_method_11_code, 9, (Option.some Jvm.ClassFile.FieldType.boolean), 2, 49)
def i1_lowerBy : MI := (⟨"CallSteps$Costs", "lowerBy", "(LCallSteps$Program;I)Z"⟩, prog_3_method_10_code, 15, (Option.some Jvm.ClassFile.FieldType.boolean), 3, 77)
def i1_of : MI := (⟨"CallSteps$Costs", "of", "(LCallSteps$Place;)J"⟩, prog_3_method_12_code, 3, (Option.some Jvm.ClassFile.FieldType.long), 4, 95)
def i7_hasRule : MI := (⟨"CallSteps$Program", "hasRule", "(I)Z"⟩, prog_9_method_13_code, 2, (Option.some Jvm.ClassFile.FieldType.boolean), 0, 0)
def i7_isIn : MI := (⟨"CallSteps$Program", "isIn", "(II)Z"⟩, prog_9_method_14_code, 3, (Option.some Jvm.ClassFile.FieldType.boolean), 1, 21)
def i1_saturate : MI := (⟨"CallSteps$Costs", "saturate", "(LCallSteps$Program;I)V"⟩, prog_3_method_9_code, 6, (Option.none : Option Jvm.ClassFile.FieldType), 4, 111)
def i4_fill : MI := (⟨"CallSteps$Longs", "fill", "(J)V"⟩, prog_6_method_5_code, 3, (Option.none : Option Jvm.ClassFile.FieldType), 1, 24)
def i1_start : MI := (⟨"CallSteps$Costs", "start", "(I)V"⟩, prog_3_method_2_code, 3, (Option.none : Option Jvm.ClassFile.FieldType), 2, 49)
def i1_startForGoals : MI := (⟨"CallSteps$Costs", "startForGoals", "(LCallSteps$Program;)V"⟩, prog_3_method_3_code, 3, (Option.none : Option Jvm.ClassFile.FieldType), 4, 98)
def i2_canPop : MI := (⟨"CallSteps$Heads", "canPop", "(III)Z"⟩, prog_4_method_5_code, 4, (Option.some Jvm.ClassFile.FieldType.boolean), 2, 44)
def i3_fill : MI := (⟨"CallSteps$Ints", "fill", "(I)V"⟩, prog_5_method_4_code, 2, (Option.none : Option Jvm.ClassFile.FieldType), 1, 23)
def i2_headOf : MI := (⟨"CallSteps$Heads", "headOf", "(II)I"⟩, prog_4_method_3_code, 2, (Option.some Jvm.ClassFile.FieldType.int), 0, 0)
def i2_headOfRule : MI := (⟨"CallSteps$Heads", "headOfRule", "(I)I"⟩, prog_4_method_4_code, 2, (Option.some Jvm.ClassFile.FieldType.int), 2, 43)
def i2_headBehind : MI := (⟨"CallSteps$Heads", "headBehind", "(II)I"⟩, prog_4_method_6_code, 6, (Option.some Jvm.ClassFile.FieldType.int), 3, 67)
def i2_goesOnToLasting : MI := (⟨"CallSteps$Heads", "goesOnToLasting", "(I)Z"⟩, prog_4_method_15_code, 4, (Option.some Jvm.ClassFile.FieldType.boolean), 4, 92)
def i2_leadsToLasting : MI := (⟨"CallSteps$Heads", "leadsToLasting", "(I)Z"⟩, prog_4_method_14_code, 3, (Option.some Jvm.ClassFile.FieldType.boolean), 5, 115)
def i2_findLasting : MI := (⟨"CallSteps$Heads", "findLasting", "()V"⟩, prog_4_method_13_code, 4, (Option.none : Option Jvm.ClassFile.FieldType), 6, 137)
def i2_toPop : MI := (⟨"CallSteps$Heads", "toPop", "(III)J"⟩, prog_4_method_19_code, 4, (Option.some Jvm.ClassFile.FieldType.long), 1, 21)
def i2_toPopFirst : MI := (⟨"CallSteps$Heads", "toPopFirst", "(II)J"⟩, prog_4_method_20_code, 5, (Option.some Jvm.ClassFile.FieldType.long), 2, 44)
def i2_joined : MI := (⟨"CallSteps$Heads", "joined", "(JJ)J"⟩, prog_4_method_22_code, 4, (Option.some Jvm.ClassFile.FieldType.long), 1, 23)
def i2_toPopBy : MI := (⟨"CallSteps$Heads", "toPopBy", "(II)J"⟩, prog_4_method_21_code, 9, (Option.some Jvm.ClassFile.FieldType.long), 2, 46)
def i2_lengthensBy : MI := (⟨"CallSteps$Heads", "lengthensBy", "(I)Z"⟩, prog_4_method_18_code, 9, (Option.some Jvm.ClassFile.FieldType.boolean), 4, 92)
def i2_findMostSteps : MI := (⟨"CallSteps$Heads", "findMostSteps", "()V"⟩, prog_4_method_17_code, 5, (Option.none : Option Jvm.ClassFile.FieldType), 5, 120)
def i2_raisesBy : MI := (⟨"CallSteps$Heads", "raisesBy", "(I)Z"⟩, prog_4_method_9_code, 6, (Option.some Jvm.ClassFile.FieldType.boolean), 4, 92)
def i2_findRises : MI := (⟨"CallSteps$Heads", "findRises", "()V"⟩, prog_4_method_8_code, 4, (Option.none : Option Jvm.ClassFile.FieldType), 5, 117)
def i2_goBelow : MI := (⟨"CallSteps$Heads", "goBelow", "(IIJ)V"⟩, prog_4_method_24_code, 8, (Option.none : Option Jvm.ClassFile.FieldType), 2, 44)
def i2_riseOf : MI := (⟨"CallSteps$Heads", "riseOf", "(II)I"⟩, prog_4_method_7_code, 4, (Option.some Jvm.ClassFile.FieldType.int), 1, 21)
def i2_reachedBelow : MI := (⟨"CallSteps$Heads", "reachedBelow", "(II)I"⟩, prog_4_method_11_code, 6, (Option.some Jvm.ClassFile.FieldType.int), 3, 67)
def i2_highestFrom : MI := (⟨"CallSteps$Heads", "highestFrom", "(LCallSteps$Place;)I"⟩, prog_4_method_10_code, 8, (Option.some Jvm.ClassFile.FieldType.int), 4, 92)
def i2_init : MI := (⟨"CallSteps$Heads", "<init>", "(LCallSteps$Program;LCallSteps$Costs;)V"⟩, prog_4_method_1_code, 3, (Option.none : Option Jvm.ClassFile.FieldType), 2, 41)
def i2_isLasting : MI := (⟨"CallSteps$Heads", "isLasting", "(II)Z"⟩, prog_4_method_12_code, 3, (Option.some Jvm.ClassFile.FieldType.boolean), 1, 21)
def i2_lastsFrom : MI := (⟨"CallSteps$Heads", "lastsFrom", "(LCallSteps$Place;)Z"⟩, prog_4_method_16_code, 6, (Option.some Jvm.ClassFile.FieldType.boolean), 4, 92)
def i2_lookAt : MI := (⟨"CallSteps$Heads", "lookAt", "(LCallSteps$Program;I)V"⟩, prog_4_method_2_code, 3, (Option.none : Option Jvm.ClassFile.FieldType), 0, 0)
def i2_mostStepsFrom : MI := (⟨"CallSteps$Heads", "mostStepsFrom", "(LCallSteps$Place;)J"⟩, prog_4_method_23_code, 9, (Option.some Jvm.ClassFile.FieldType.long), 3, 71)
def i3_widen : MI := (⟨"CallSteps$Ints", "widen", "(I)V"⟩, prog_5_method_5_code, 2, (Option.none : Option Jvm.ClassFile.FieldType), 2, 82)
def i4_widen : MI := (⟨"CallSteps$Longs", "widen", "(I)V"⟩, prog_6_method_6_code, 2, (Option.none : Option Jvm.ClassFile.FieldType), 2, 82)
def i5_addNode : MI := (⟨"CallSteps$Machines", "addNode", "(II)V"⟩, prog_7_method_17_code, 3, (Option.none : Option Jvm.ClassFile.FieldType), 1, 22)
def i5_kindBehind : MI := (⟨"CallSteps$Machines", "kindBehind", "(II)I"⟩, prog_7_method_12_code, 3, (Option.some Jvm.ClassFile.FieldType.int), 1, 21)
def i5_areAlike : MI := (⟨"CallSteps$Machines", "areAlike", "(II)Z"⟩, prog_7_method_14_code, 4, (Option.some Jvm.ClassFile.FieldType.boolean), 2, 43)
def i5_bucketOf : MI := (⟨"CallSteps$Machines", "bucketOf", "(I)I"⟩, prog_7_method_6_code, 2, (Option.some Jvm.ClassFile.FieldType.int), 0, 0)
def i5_readMoves : MI := (⟨"CallSteps$Machines", "readMoves", "(LCallSteps$Costs;)V"⟩, prog_7_method_3_code, 6, (Option.none : Option Jvm.ClassFile.FieldType), 2, 44)
def i5_widen : MI := (⟨"CallSteps$Machines", "widen", "()V"⟩, prog_7_method_7_code, 1, (Option.none : Option Jvm.ClassFile.FieldType), 3, 103)
def i5_setNumber : MI := (⟨"CallSteps$Machines", "setNumber", "(I)I"⟩, prog_7_method_5_code, 5, (Option.some Jvm.ClassFile.FieldType.int), 4, 123)
def i5_setBehind : MI := (⟨"CallSteps$Machines", "setBehind", "(II)I"⟩, prog_7_method_4_code, 5, (Option.some Jvm.ClassFile.FieldType.int), 1, 21)
def i5_build : MI := (⟨"CallSteps$Machines", "build", "(LCallSteps$Program;LCallSteps$Costs;)V"⟩, prog_7_method_2_code, 5, (Option.none : Option Jvm.ClassFile.FieldType), 5, 147)
def i5_nodeBehind : MI := (⟨"CallSteps$Machines", "nodeBehind", "(II)I"⟩, prog_7_method_19_code, 3, (Option.some Jvm.ClassFile.FieldType.int), 2, 43)
def i5_lengthenWords : MI := (⟨"CallSteps$Machines", "lengthenWords", "()V"⟩, prog_7_method_22_code, 4, (Option.none : Option Jvm.ClassFile.FieldType), 3, 65)
def i5_isGoodSet : MI := (⟨"CallSteps$Machines", "isGoodSet", "(I)Z"⟩, prog_7_method_8_code, 2, (Option.some Jvm.ClassFile.FieldType.boolean), 1, 21)
def i5_isGoodNode : MI := (⟨"CallSteps$Machines", "isGoodNode", "(I)Z"⟩, prog_7_method_20_code, 2, (Option.some Jvm.ClassFile.FieldType.boolean), 2, 42)
def i5_countWords : MI := (⟨"CallSteps$Machines", "countWords", "(I)J"⟩, prog_7_method_21_code, 5, (Option.some Jvm.ClassFile.FieldType.long), 4, 88)
def i5_parentOf : MI := (⟨"CallSteps$Machines", "parentOf", "(I)I"⟩, prog_7_method_24_code, 2, (Option.some Jvm.ClassFile.FieldType.int), 1, 21)
def i5_depthOf : MI := (⟨"CallSteps$Machines", "depthOf", "(I)I"⟩, prog_7_method_25_code, 4, (Option.some Jvm.ClassFile.FieldType.int), 2, 42)
def i5_findAlike : MI := (⟨"CallSteps$Machines", "findAlike", "(II)I"⟩, prog_7_method_11_code, 5, (Option.some Jvm.ClassFile.FieldType.int), 3, 66)
def i5_firstGoodNode : MI := (⟨"CallSteps$Machines", "firstGoodNode", "()I"⟩, prog_7_method_23_code, 2, (Option.some Jvm.ClassFile.FieldType.int), 3, 63)
def i5_hasNode : MI := (⟨"CallSteps$Machines", "hasNode", "(I)Z"⟩, prog_7_method_18_code, 2, (Option.some Jvm.ClassFile.FieldType.boolean), 0, 0)
def i5_init : MI := (⟨"CallSteps$Machines", "<init>", "()V"⟩, prog_7_method_1_code, 1, (Option.none : Option Jvm.ClassFile.FieldType), 2, 41)
def i5_mixOf : MI := (⟨"CallSteps$Machines", "mixOf", "(I)I"⟩, prog_7_method_13_code, 4, (Option.some Jvm.ClassFile.FieldType.int), 2, 43)
def i5_numberFrom : MI := (⟨"CallSteps$Machines", "numberFrom", "(I)V"⟩, prog_7_method_16_code, 5, (Option.none : Option Jvm.ClassFile.FieldType), 2, 44)
def i5_partKinds : MI := (⟨"CallSteps$Machines", "partKinds", "()I"⟩, prog_7_method_10_code, 5, (Option.some Jvm.ClassFile.FieldType.int), 4, 90)
def i5_signOnTheWay : MI := (⟨"CallSteps$Machines", "signOnTheWay", "(II)I"⟩, prog_7_method_26_code, 5, (Option.some Jvm.ClassFile.FieldType.int), 2, 42)
def i5_sortOut : MI := (⟨"CallSteps$Machines", "sortOut", "()V"⟩, prog_7_method_9_code, 4, (Option.none : Option Jvm.ClassFile.FieldType), 5, 114)
def i5_startAlike : MI := (⟨"CallSteps$Machines", "startAlike", "(II)Z"⟩, prog_7_method_15_code, 3, (Option.some Jvm.ClassFile.FieldType.boolean), 1, 21)
def i6_become : MI := (⟨"CallSteps$Place", "become", "(LCallSteps$Place;)V"⟩, prog_8_method_4_code, 3, (Option.none : Option Jvm.ClassFile.FieldType), 2, 43)
def i6_fromTop : MI := (⟨"CallSteps$Place", "fromTop", "(I)I"⟩, prog_8_method_6_code, 2, (Option.some Jvm.ClassFile.FieldType.int), 1, 21)
def i6_init : MI := (⟨"CallSteps$Place", "<init>", "(I)V"⟩, prog_8_method_1_code, 2, (Option.none : Option Jvm.ClassFile.FieldType), 2, 41)
def i6_isNone : MI := (⟨"CallSteps$Place", "isNone", "()Z"⟩, prog_8_method_2_code, 1, (Option.some Jvm.ClassFile.FieldType.boolean), 0, 0)
def i6_stepBy : MI := (⟨"CallSteps$Place", "stepBy", "(LCallSteps$Program;I)V"⟩, prog_8_method_8_code, 4, (Option.none : Option Jvm.ClassFile.FieldType), 2, 43)
def i6_turnOver : MI := (⟨"CallSteps$Place", "turnOver", "()V"⟩, prog_8_method_9_code, 4, (Option.none : Option Jvm.ClassFile.FieldType), 1, 22)
def i7_addSign : MI := (⟨"CallSteps$Program", "addSign", "(J)V"⟩, prog_9_method_4_code, 3, (Option.none : Option Jvm.ClassFile.FieldType), 1, 23)
def i7_addState : MI := (⟨"CallSteps$Program", "addState", "(J)V"⟩, prog_9_method_3_code, 3, (Option.none : Option Jvm.ClassFile.FieldType), 1, 23)
def i7_isFor : MI := (⟨"CallSteps$Program", "isFor", "(IIII)Z"⟩, prog_9_method_15_code, 5, (Option.some Jvm.ClassFile.FieldType.boolean), 2, 43)
def i7_applies : MI := (⟨"CallSteps$Program", "applies", "(ILCallSteps$Place;I)Z"⟩, prog_9_method_17_code, 4, (Option.some Jvm.ClassFile.FieldType.boolean), 3, 67)
def i7_clear : MI := (⟨"CallSteps$Program", "clear", "()V"⟩, prog_9_method_2_code, 1, (Option.none : Option Jvm.ClassFile.FieldType), 0, 0)
def i7_hasRuleFor : MI := (⟨"CallSteps$Program", "hasRuleFor", "(III)Z"⟩, prog_9_method_16_code, 5, (Option.some Jvm.ClassFile.FieldType.boolean), 3, 67)
def i7_hasSign : MI := (⟨"CallSteps$Program", "hasSign", "(I)Z"⟩, prog_9_method_12_code, 2, (Option.some Jvm.ClassFile.FieldType.boolean), 0, 0)
def i7_hasState : MI := (⟨"CallSteps$Program", "hasState", "(I)Z"⟩, prog_9_method_11_code, 2, (Option.some Jvm.ClassFile.FieldType.boolean), 0, 0)
def i7_init : MI := (⟨"CallSteps$Program", "<init>", "()V"⟩, prog_9_method_1_code, 1, (Option.none : Option Jvm.ClassFile.FieldType), 2, 41)
def i7_isAtGoal : MI := (⟨"CallSteps$Program", "isAtGoal", "(ILCallSteps$Place;)Z"⟩, prog_9_method_18_code, 6, (Option.some Jvm.ClassFile.FieldType.boolean), 2, 43)
def i7_setGoal : MI := (⟨"CallSteps$Program", "setGoal", "(III)V"⟩, prog_9_method_9_code, 4, (Option.none : Option Jvm.ClassFile.FieldType), 1, 22)
def i7_setRule : MI := (⟨"CallSteps$Program", "setRule", "(III)V"⟩, prog_9_method_7_code, 4, (Option.none : Option Jvm.ClassFile.FieldType), 1, 22)
def i7_signNamed : MI := (⟨"CallSteps$Program", "signNamed", "(J)I"⟩, prog_9_method_6_code, 4, (Option.some Jvm.ClassFile.FieldType.int), 1, 21)
def i7_stateNamed : MI := (⟨"CallSteps$Program", "stateNamed", "(J)I"⟩, prog_9_method_5_code, 4, (Option.some Jvm.ClassFile.FieldType.int), 1, 21)
def i9_byteAt : MI := (⟨"CallSteps$Tape", "byteAt", "(I)I"⟩, prog_11_method_4_code, 2, (Option.some Jvm.ClassFile.FieldType.int), 0, 0)
def i9_isBlank : MI := (⟨"CallSteps$Tape", "isBlank", "(I)Z"⟩, prog_11_method_7_code, 1, (Option.some Jvm.ClassFile.FieldType.boolean), 0, 0)
def i9_isLetter : MI := (⟨"CallSteps$Tape", "isLetter", "(I)Z"⟩, prog_11_method_5_code, 1, (Option.some Jvm.ClassFile.FieldType.boolean), 0, 0)
def i9_takeWord : MI := (⟨"CallSteps$Tape", "takeWord", "()V"⟩, prog_11_method_10_code, 1, (Option.none : Option Jvm.ClassFile.FieldType), 1, 21)
def i9_isDigit : MI := (⟨"CallSteps$Tape", "isDigit", "(I)Z"⟩, prog_11_method_6_code, 1, (Option.some Jvm.ClassFile.FieldType.boolean), 0, 0)
def i9_takeNumber : MI := (⟨"CallSteps$Tape", "takeNumber", "()V"⟩, prog_11_method_11_code, 2, (Option.none : Option Jvm.ClassFile.FieldType), 1, 21)
def i9_takeNext : MI := (⟨"CallSteps$Tape", "takeNext", "()V"⟩, prog_11_method_9_code, 2, (Option.none : Option Jvm.ClassFile.FieldType), 2, 42)
def i9_takeFirst : MI := (⟨"CallSteps$Tape", "takeFirst", "()V"⟩, prog_11_method_8_code, 1, (Option.none : Option Jvm.ClassFile.FieldType), 3, 63)
def i8_begin : MI := (⟨"CallSteps$Reader", "begin", "(LCallSteps$Program;)V"⟩, prog_10_method_4_code, 2, (Option.none : Option Jvm.ClassFile.FieldType), 4, 83)
def i8_fail : MI := (⟨"CallSteps$Reader", "fail", "(I)Z"⟩, prog_10_method_5_code, 2, (Option.some Jvm.ClassFile.FieldType.boolean), 0, 0)
def i8_init : MI := (⟨"CallSteps$Reader", "<init>", "(LCallSteps$Tape;LCallSteps$Program;)V"⟩, prog_10_method_1_code, 3, (Option.none : Option Jvm.ClassFile.FieldType), 1, 20)
def i9_isName : MI := (⟨"CallSteps$Tape", "isName", "()Z"⟩, prog_11_method_13_code, 1, (Option.some Jvm.ClassFile.FieldType.boolean), 0, 0)
def i8_refuse : MI := (⟨"CallSteps$Reader", "refuse", "()Z"⟩, prog_10_method_6_code, 1, (Option.some Jvm.ClassFile.FieldType.boolean), 1, 21)
def i8_isNewName : MI := (⟨"CallSteps$Reader", "isNewName", "()Z"⟩, prog_10_method_9_code, 2, (Option.some Jvm.ClassFile.FieldType.boolean), 2, 44)
def i8_takeNamed : MI := (⟨"CallSteps$Reader", "takeNamed", "(I)I"⟩, prog_10_method_19_code, 2, (Option.some Jvm.ClassFile.FieldType.int), 3, 63)
def i8_readsGoalSigns : MI := (⟨"CallSteps$Reader", "readsGoalSigns", "(I)Z"⟩, prog_10_method_17_code, 4, (Option.some Jvm.ClassFile.FieldType.boolean), 4, 84)
def i9_isWord : MI := (⟨"CallSteps$Tape", "isWord", "(J)Z"⟩, prog_11_method_12_code, 3, (Option.some Jvm.ClassFile.FieldType.boolean), 0, 0)
def i8_readsSemicolon : MI := (⟨"CallSteps$Reader", "readsSemicolon", "()Z"⟩, prog_10_method_18_code, 1, (Option.some Jvm.ClassFile.FieldType.boolean), 3, 63)
def i8_readsGoal : MI := (⟨"CallSteps$Reader", "readsGoal", "()Z"⟩, prog_10_method_16_code, 4, (Option.some Jvm.ClassFile.FieldType.boolean), 5, 107)
def i8_readsPlace : MI := (⟨"CallSteps$Reader", "readsPlace", "(LCallSteps$Program;LCallSteps$Place;)Z"⟩, prog_10_method_3_code, 6, (Option.some Jvm.ClassFile.FieldType.boolean), 5, 104)
def i8_readsState : MI := (⟨"CallSteps$Reader", "readsState", "()Z"⟩, prog_10_method_7_code, 1, (Option.some Jvm.ClassFile.FieldType.boolean), 4, 83)
def i8_readsSign : MI := (⟨"CallSteps$Reader", "readsSign", "()Z"⟩, prog_10_method_8_code, 1, (Option.some Jvm.ClassFile.FieldType.boolean), 4, 83)
def i8_readsRuleState : MI := (⟨"CallSteps$Reader", "readsRuleState", "(II)Z"⟩, prog_10_method_11_code, 4, (Option.some Jvm.ClassFile.FieldType.boolean), 4, 84)
def i8_readsRuleSign : MI := (⟨"CallSteps$Reader", "readsRuleSign", "(II)Z"⟩, prog_10_method_12_code, 4, (Option.some Jvm.ClassFile.FieldType.boolean), 4, 84)
def i8_readsTo : MI := (⟨"CallSteps$Reader", "readsTo", "()Z"⟩, prog_10_method_13_code, 1, (Option.some Jvm.ClassFile.FieldType.boolean), 3, 63)
def i8_readsRuleSigns : MI := (⟨"CallSteps$Reader", "readsRuleSigns", "(I)Z"⟩, prog_10_method_14_code, 4, (Option.some Jvm.ClassFile.FieldType.boolean), 4, 84)
def i8_readsRuleCost : MI := (⟨"CallSteps$Reader", "readsRuleCost", "(I)Z"⟩, prog_10_method_15_code, 2, (Option.some Jvm.ClassFile.FieldType.boolean), 3, 63)
def i8_readsRule : MI := (⟨"CallSteps$Reader", "readsRule", "()Z"⟩, prog_10_method_10_code, 3, (Option.some Jvm.ClassFile.FieldType.boolean), 5, 107)
def i8_readsProgram : MI := (⟨"CallSteps$Reader", "readsProgram", "(LCallSteps$Program;)Z"⟩, prog_10_method_2_code, 4, (Option.some Jvm.ClassFile.FieldType.boolean), 6, 130)
def i9_addFour : MI := (⟨"CallSteps$Tape", "addFour", "(I)V"⟩, prog_11_method_2_code, 3, (Option.none : Option Jvm.ClassFile.FieldType), 0, 0)
def i9_cut : MI := (⟨"CallSteps$Tape", "cut", "(I)V"⟩, prog_11_method_3_code, 2, (Option.none : Option Jvm.ClassFile.FieldType), 0, 0)
def i9_init : MI := (⟨"CallSteps$Tape", "<init>", "()V"⟩, prog_11_method_1_code, 1, (Option.none : Option Jvm.ClassFile.FieldType), 1, 20)
def i10_leastRule : MI := (⟨"CallSteps$Walk", "leastRule", "(LCallSteps$Costs;LCallSteps$Program;IJ)I"⟩, prog_12_method_4_code, 7, (Option.some Jvm.ClassFile.FieldType.int), 4, 104)
def i10_stepBy : MI := (⟨"CallSteps$Walk", "stepBy", "(LCallSteps$Costs;LCallSteps$Program;I)V"⟩, prog_12_method_5_code, 6, (Option.none : Option Jvm.ClassFile.FieldType), 4, 95)
def i10_follow : MI := (⟨"CallSteps$Walk", "follow", "(LCallSteps$Costs;LCallSteps$Program;ILCallSteps$Place;)V"⟩, prog_12_method_3_code, 8, (Option.none : Option Jvm.ClassFile.FieldType), 5, 130)
def i10_init : MI := (⟨"CallSteps$Walk", "<init>", "()V"⟩, prog_12_method_1_code, 1, (Option.none : Option Jvm.ClassFile.FieldType), 3, 62)
def i10_ruleAt : MI := (⟨"CallSteps$Walk", "ruleAt", "(I)I"⟩, prog_12_method_2_code, 2, (Option.some Jvm.ClassFile.FieldType.int), 1, 21)
def i11_about : MI := (⟨"CallSteps", "about", "(I)I"⟩, prog_1_method_6_code, 2, (Option.some Jvm.ClassFile.FieldType.int), 0, 0)
def i11_at : MI := (⟨"CallSteps", "at", "()I"⟩, prog_1_method_9_code, 2, (Option.some Jvm.ClassFile.FieldType.int), 6, 129)
def i11_bitByNumber : MI := (⟨"CallSteps", "bitByNumber", "(II)I"⟩, prog_1_method_42_code, 4, (Option.some Jvm.ClassFile.FieldType.int), 0, 0)
def i11_canStep : MI := (⟨"CallSteps", "canStep", "(I)Z"⟩, prog_1_method_36_code, 2, (Option.some Jvm.ClassFile.FieldType.boolean), 4, 90)
def i11_can : MI := (⟨"CallSteps", "can", "()I"⟩, prog_1_method_11_code, 3, (Option.some Jvm.ClassFile.FieldType.int), 5, 111)
def i11_told : MI := (⟨"CallSteps", "told", "(J)J"⟩, prog_1_method_41_code, 2, (Option.some Jvm.ClassFile.FieldType.long), 0, 0)
def i11_comes : MI := (⟨"CallSteps", "comes", "(II)J"⟩, prog_1_method_19_code, 4, (Option.some Jvm.ClassFile.FieldType.long), 5, 136)
def i11_settleCosts : MI := (⟨"CallSteps", "settleCosts", "()V"⟩, prog_1_method_37_code, 1, (Option.none : Option Jvm.ClassFile.FieldType), 5, 136)
def i11_costOfNow : MI := (⟨"CallSteps", "costOfNow", "()J"⟩, prog_1_method_40_code, 1, (Option.some Jvm.ClassFile.FieldType.long), 6, 156)
def i11_cost : MI := (⟨"CallSteps", "cost", "()J"⟩, prog_1_method_15_code, 1, (Option.some Jvm.ClassFile.FieldType.long), 7, 176)
def i11_end : MI := (⟨"CallSteps", "end", "(I)I"⟩, prog_1_method_3_code, 2, (Option.some Jvm.ClassFile.FieldType.int), 1, 21)
def i11_settleHeads : MI := (⟨"CallSteps", "settleHeads", "()V"⟩, prog_1_method_38_code, 1, (Option.none : Option Jvm.ClassFile.FieldType), 6, 156)
def i11_endless : MI := (⟨"CallSteps", "endless", "()I"⟩, prog_1_method_23_code, 1, (Option.some Jvm.ClassFile.FieldType.int), 7, 176)
def i11_fault : MI := (⟨"CallSteps", "fault", "(I)I"⟩, prog_1_method_5_code, 2, (Option.some Jvm.ClassFile.FieldType.int), 0, 0)
def i11_feed : MI := (⟨"CallSteps", "feed", "(IIIII)I"⟩, prog_1_method_2_code, 6, (Option.some Jvm.ClassFile.FieldType.int), 1, 22)
def i11_goal : MI := (⟨"CallSteps", "goal", "(II)I"⟩, prog_1_method_8_code, 4, (Option.some Jvm.ClassFile.FieldType.int), 2, 43)
def i11_settleMachine : MI := (⟨"CallSteps", "settleMachine", "(I)V"⟩, prog_1_method_39_code, 2, (Option.none : Option Jvm.ClassFile.FieldType), 6, 171)
def i11_good : MI := (⟨"CallSteps", "good", "(II)I"⟩, prog_1_method_28_code, 3, (Option.some Jvm.ClassFile.FieldType.int), 7, 192)
def i11_height : MI := (⟨"CallSteps", "height", "()I"⟩, prog_1_method_20_code, 1, (Option.some Jvm.ClassFile.FieldType.int), 7, 176)
def i11_init : MI := (⟨"CallSteps", "<init>", "()V"⟩, prog_1_method_1_code, 1, (Option.none : Option Jvm.ClassFile.FieldType), 4, 82)
def i11_isAtGoal : MI := (⟨"CallSteps", "isAtGoal", "()Z"⟩, prog_1_method_35_code, 2, (Option.some Jvm.ClassFile.FieldType.boolean), 3, 68)
def i11_isOut : MI := (⟨"CallSteps", "isOut", "(I)Z"⟩, prog_1_method_33_code, 2, (Option.some Jvm.ClassFile.FieldType.boolean), 0, 0)
def i11_lasts : MI := (⟨"CallSteps", "lasts", "(II)I"⟩, prog_1_method_22_code, 3, (Option.some Jvm.ClassFile.FieldType.int), 7, 176)
def i11_longest : MI := (⟨"CallSteps", "longest", "()J"⟩, prog_1_method_24_code, 1, (Option.some Jvm.ClassFile.FieldType.long), 7, 176)
def i11_machine : MI := (⟨"CallSteps", "machine", "(I)I"⟩, prog_1_method_26_code, 2, (Option.some Jvm.ClassFile.FieldType.int), 7, 192)
def i11_matters : MI := (⟨"CallSteps", "matters", "(I)J"⟩, prog_1_method_18_code, 6, (Option.some Jvm.ClassFile.FieldType.long), 7, 176)
def i11_next : MI := (⟨"CallSteps", "next", "(III)I"⟩, prog_1_method_27_code, 4, (Option.some Jvm.ClassFile.FieldType.int), 7, 192)
def i11_now : MI := (⟨"CallSteps", "now", "(I)I"⟩, prog_1_method_10_code, 3, (Option.some Jvm.ClassFile.FieldType.int), 4, 89)
def i11_putOut : MI := (⟨"CallSteps", "putOut", "(I)V"⟩, prog_1_method_34_code, 2, (Option.none : Option Jvm.ClassFile.FieldType), 0, 0)
def i11_out : MI := (⟨"CallSteps", "out", "(IZ)Z"⟩, prog_1_method_32_code, 3, (Option.some Jvm.ClassFile.FieldType.boolean), 3, 66)
def i11_pops : MI := (⟨"CallSteps", "pops", "(III)J"⟩, prog_1_method_17_code, 4, (Option.some Jvm.ClassFile.FieldType.long), 6, 156)
def i11_rises : MI := (⟨"CallSteps", "rises", "(II)I"⟩, prog_1_method_21_code, 3, (Option.some Jvm.ClassFile.FieldType.int), 7, 176)
def i11_rule : MI := (⟨"CallSteps", "rule", "(II)I"⟩, prog_1_method_7_code, 3, (Option.some Jvm.ClassFile.FieldType.int), 2, 43)
def i11_run : MI := (⟨"CallSteps", "run", "(II)I"⟩, prog_1_method_13_code, 7, (Option.some Jvm.ClassFile.FieldType.int), 6, 133)
def i11_same : MI := (⟨"CallSteps", "same", "(II)I"⟩, prog_1_method_31_code, 3, (Option.some Jvm.ClassFile.FieldType.int), 7, 192)
def i11_shortest : MI := (⟨"CallSteps", "shortest", "(II)I"⟩, prog_1_method_30_code, 5, (Option.some Jvm.ClassFile.FieldType.int), 7, 192)
def i11_stacks : MI := (⟨"CallSteps", "stacks", "(II)J"⟩, prog_1_method_29_code, 3, (Option.some Jvm.ClassFile.FieldType.long), 7, 192)
def i11_step : MI := (⟨"CallSteps", "step", "(I)I"⟩, prog_1_method_12_code, 2, (Option.some Jvm.ClassFile.FieldType.int), 5, 111)
def i11_stuck : MI := (⟨"CallSteps", "stuck", "()J"⟩, prog_1_method_25_code, 3, (Option.some Jvm.ClassFile.FieldType.long), 5, 136)
def i11_system : MI := (⟨"CallSteps", "system", "()I"⟩, prog_1_method_4_code, 3, (Option.some Jvm.ClassFile.FieldType.int), 7, 153)
def i11_undo : MI := (⟨"CallSteps", "undo", "()Z"⟩, prog_1_method_14_code, 1, (Option.some Jvm.ClassFile.FieldType.boolean), 3, 67)
def i11_way : MI := (⟨"CallSteps", "way", "(I)I"⟩, prog_1_method_16_code, 2, (Option.some Jvm.ClassFile.FieldType.int), 7, 176)
def i12_about : MI := (⟨"CallStepsModel", "about", "(I)I"⟩, prog_14_method_39_code, 2, (Option.some Jvm.ClassFile.FieldType.int), 0, 0)
def i12_goesTo : MI := (⟨"CallStepsModel", "goesTo", "(II)I"⟩, prog_14_method_57_code, 5, (Option.some Jvm.ClassFile.FieldType.int), 0, 0)
def i12_cell : MI := (⟨"CallStepsModel", "cell", "(III)I"⟩, prog_14_method_59_code, 4, (Option.some Jvm.ClassFile.FieldType.int), 0, 0)
def i12_costOf : MI := (⟨"CallStepsModel", "costOf", "([JIII)J"⟩, prog_14_method_60_code, 5, (Option.some Jvm.ClassFile.FieldType.long), 1, 23)
def i12_sum : MI := (⟨"CallStepsModel", "sum", "(JJ)J"⟩, prog_14_method_6_code, 6, (Option.some Jvm.ClassFile.FieldType.long), 0, 0)
def i12_lesser : MI := (⟨"CallStepsModel", "lesser", "(JJ)J"⟩, prog_14_method_7_code, 4, (Option.some Jvm.ClassFile.FieldType.long), 0, 0)
def i12_aboveBy : MI := (⟨"CallStepsModel", "aboveBy", "([JIII)J"⟩, prog_14_method_66_code, 8, (Option.some Jvm.ClassFile.FieldType.long), 2, 47)
def i12_isOf : MI := (⟨"CallStepsModel", "isOf", "(II)Z"⟩, prog_14_method_4_code, 2, (Option.some Jvm.ClassFile.FieldType.boolean), 0, 0)
def i12_ruleOf : MI := (⟨"CallStepsModel", "ruleOf", "(II)I"⟩, prog_14_method_14_code, 3, (Option.some Jvm.ClassFile.FieldType.int), 0, 0)
def i12_isHeadOf : MI := (⟨"CallStepsModel", "isHeadOf", "(III)Z"⟩, prog_14_method_15_code, 4, (Option.some Jvm.ClassFile.FieldType.boolean), 1, 22)
def i12_allThatCan : MI := (⟨"CallStepsModel", "allThatCan", "()I"⟩, prog_14_method_48_code, 3, (Option.some Jvm.ClassFile.FieldType.int), 2, 45)
def i12_signs : MI := (⟨"CallStepsModel", "signs", "()I"⟩, prog_14_method_10_code, 1, (Option.some Jvm.ClassFile.FieldType.int), 0, 0)
def i12_areAlike : MI := (⟨"CallStepsModel", "areAlike", "(II)Z"⟩, prog_14_method_99_code, 4, (Option.some Jvm.ClassFile.FieldType.boolean), 1, 20)
def i12_byteAt : MI := (⟨"CallStepsModel", "byteAt", "(I)I"⟩, prog_14_method_19_code, 2, (Option.some Jvm.ClassFile.FieldType.int), 0, 0)
def i12_isSmall : MI := (⟨"CallStepsModel", "isSmall", "(I)Z"⟩, prog_14_method_20_code, 1, (Option.some Jvm.ClassFile.FieldType.boolean), 0, 0)
def i12_isDigit : MI := (⟨"CallStepsModel", "isDigit", "(I)Z"⟩, prog_14_method_21_code, 1, (Option.some Jvm.ClassFile.FieldType.boolean), 0, 0)
def i12_nextToken : MI := (⟨"CallStepsModel", "nextToken", "()V"⟩, prog_14_method_22_code, 2, (Option.none : Option Jvm.ClassFile.FieldType), 1, 21)
def i12_begins : MI := (⟨"CallStepsModel", "begins", "()V"⟩, prog_14_method_28_code, 1, (Option.none : Option Jvm.ClassFile.FieldType), 2, 42)
def i12_isGood : MI := (⟨"CallStepsModel", "isGood", "()Z"⟩, prog_14_method_23_code, 1, (Option.some Jvm.ClassFile.FieldType.boolean), 0, 0)
def i12_isWord : MI := (⟨"CallStepsModel", "isWord", "(I)Z"⟩, prog_14_method_26_code, 2, (Option.some Jvm.ClassFile.FieldType.boolean), 0, 0)
def i12_isName : MI := (⟨"CallStepsModel", "isName", "()Z"⟩, prog_14_method_27_code, 2, (Option.some Jvm.ClassFile.FieldType.boolean), 1, 21)
def i12_called : MI := (⟨"CallStepsModel", "called", "(II)I"⟩, prog_14_method_30_code, 4, (Option.some Jvm.ClassFile.FieldType.int), 0, 0)
def i12_fails : MI := (⟨"CallStepsModel", "fails", "(I)V"⟩, prog_14_method_24_code, 2, (Option.none : Option Jvm.ClassFile.FieldType), 0, 0)
def i12_goOn : MI := (⟨"CallStepsModel", "goOn", "()V"⟩, prog_14_method_25_code, 1, (Option.none : Option Jvm.ClassFile.FieldType), 2, 42)
def i12_oneOf : MI := (⟨"CallStepsModel", "oneOf", "(II)I"⟩, prog_14_method_31_code, 4, (Option.some Jvm.ClassFile.FieldType.int), 3, 62)
def i12_ends : MI := (⟨"CallStepsModel", "ends", "()Z"⟩, prog_14_method_29_code, 1, (Option.some Jvm.ClassFile.FieldType.boolean), 1, 20)
def i12_keep : MI := (⟨"CallStepsModel", "keep", "()V"⟩, prog_14_method_42_code, 3, (Option.none : Option Jvm.ClassFile.FieldType), 0, 0)
def i12_at : MI := (⟨"CallStepsModel", "at", "()I"⟩, prog_14_method_45_code, 4, (Option.some Jvm.ClassFile.FieldType.int), 4, 85)
def i12_behindRule : MI := (⟨"CallStepsModel", "behindRule", "(II)J"⟩, prog_14_method_69_code, 10, (Option.some Jvm.ClassFile.FieldType.long), 3, 74)
def i12_onBy : MI := (⟨"CallStepsModel", "onBy", "([JIII)J"⟩, prog_14_method_63_code, 5, (Option.some Jvm.ClassFile.FieldType.long), 2, 47)
def i12_byRule : MI := (⟨"CallStepsModel", "byRule", "([JII)J"⟩, prog_14_method_62_code, 8, (Option.some Jvm.ClassFile.FieldType.long), 3, 71)
def i12_can : MI := (⟨"CallStepsModel", "can", "()I"⟩, prog_14_method_49_code, 1, (Option.some Jvm.ClassFile.FieldType.int), 3, 67)
def i12_canPop : MI := (⟨"CallStepsModel", "canPop", "(III)Z"⟩, prog_14_method_79_code, 4, (Option.some Jvm.ClassFile.FieldType.boolean), 2, 47)
def i12_states : MI := (⟨"CallStepsModel", "states", "()I"⟩, prog_14_method_9_code, 1, (Option.some Jvm.ClassFile.FieldType.int), 0, 0)
def i12_in : MI := (⟨"CallStepsModel", "in", "(III)Z"⟩, prog_14_method_3_code, 3, (Option.some Jvm.ClassFile.FieldType.boolean), 0, 0)
def i12_isState : MI := (⟨"CallStepsModel", "isState", "(I)Z"⟩, prog_14_method_11_code, 2, (Option.some Jvm.ClassFile.FieldType.boolean), 1, 22)
def i12_isSign : MI := (⟨"CallStepsModel", "isSign", "(I)Z"⟩, prog_14_method_12_code, 2, (Option.some Jvm.ClassFile.FieldType.boolean), 1, 22)
def i12_targetIs : MI := (⟨"CallStepsModel", "targetIs", "(II)V"⟩, prog_14_method_56_code, 3, (Option.none : Option Jvm.ClassFile.FieldType), 0, 0)
def i12_nodeOf : MI := (⟨"CallStepsModel", "nodeOf", "(II)I"⟩, prog_14_method_54_code, 3, (Option.some Jvm.ClassFile.FieldType.int), 0, 0)
def i12_lay : MI := (⟨"CallStepsModel", "lay", "([J)V"⟩, prog_14_method_61_code, 8, (Option.none : Option Jvm.ClassFile.FieldType), 4, 98)
def i12_isEnd : MI := (⟨"CallStepsModel", "isEnd", "(I)Z"⟩, prog_14_method_58_code, 3, (Option.some Jvm.ClassFile.FieldType.boolean), 0, 0)
def i12_layAbove : MI := (⟨"CallStepsModel", "layAbove", "([J[III)V"⟩, prog_14_method_65_code, 9, (Option.none : Option Jvm.ClassFile.FieldType), 3, 74)
def i12_costNow : MI := (⟨"CallStepsModel", "costNow", "([J)J"⟩, prog_14_method_67_code, 2, (Option.some Jvm.ClassFile.FieldType.long), 4, 102)
def i12_comesTo : MI := (⟨"CallStepsModel", "comesTo", "(II)J"⟩, prog_14_method_75_code, 3, (Option.some Jvm.ClassFile.FieldType.long), 5, 125)
def i12_comes : MI := (⟨"CallStepsModel", "comes", "(II)J"⟩, prog_14_method_76_code, 3, (Option.some Jvm.ClassFile.FieldType.long), 6, 147)
def i12_targetsAreGoals : MI := (⟨"CallStepsModel", "targetsAreGoals", "()V"⟩, prog_14_method_55_code, 3, (Option.none : Option Jvm.ClassFile.FieldType), 0, 0)
def i12_layTold : MI := (⟨"CallStepsModel", "layTold", "()V"⟩, prog_14_method_64_code, 1, (Option.none : Option Jvm.ClassFile.FieldType), 5, 125)
def i12_cost : MI := (⟨"CallStepsModel", "cost", "()J"⟩, prog_14_method_68_code, 1, (Option.some Jvm.ClassFile.FieldType.long), 6, 145)
def i12_does : MI := (⟨"CallStepsModel", "does", "(I)V"⟩, prog_14_method_50_code, 3, (Option.none : Option Jvm.ClassFile.FieldType), 1, 22)
def i12_end : MI := (⟨"CallStepsModel", "end", "(I)I"⟩, prog_14_method_18_code, 2, (Option.some Jvm.ClassFile.FieldType.int), 1, 22)
def i12_head : MI := (⟨"CallStepsModel", "head", "(II)I"⟩, prog_14_method_78_code, 3, (Option.some Jvm.ClassFile.FieldType.int), 0, 0)
def i12_layBehind : MI := (⟨"CallStepsModel", "layBehind", "()V"⟩, prog_14_method_85_code, 5, (Option.none : Option Jvm.ClassFile.FieldType), 6, 145)
def i12_layComesUp : MI := (⟨"CallStepsModel", "layComesUp", "()V"⟩, prog_14_method_83_code, 5, (Option.none : Option Jvm.ClassFile.FieldType), 6, 145)
def i12_goesOnAt : MI := (⟨"CallStepsModel", "goesOnAt", "(II)Z"⟩, prog_14_method_86_code, 5, (Option.some Jvm.ClassFile.FieldType.boolean), 1, 22)
def i12_isEndless : MI := (⟨"CallStepsModel", "isEndless", "()Z"⟩, prog_14_method_88_code, 3, (Option.some Jvm.ClassFile.FieldType.boolean), 7, 169)
def i12_endless : MI := (⟨"CallStepsModel", "endless", "()I"⟩, prog_14_method_89_code, 1, (Option.some Jvm.ClassFile.FieldType.int), 8, 191)
def i12_fault : MI := (⟨"CallStepsModel", "fault", "(I)I"⟩, prog_14_method_38_code, 2, (Option.some Jvm.ClassFile.FieldType.int), 0, 0)
def i12_four : MI := (⟨"CallStepsModel", "four", "(I)V"⟩, prog_14_method_16_code, 3, (Option.none : Option Jvm.ClassFile.FieldType), 0, 0)
def i12_feed : MI := (⟨"CallStepsModel", "feed", "(IIIII)I"⟩, prog_14_method_17_code, 6, (Option.some Jvm.ClassFile.FieldType.int), 1, 22)
def i12_goal : MI := (⟨"CallStepsModel", "goal", "(II)I"⟩, prog_14_method_41_code, 3, (Option.some Jvm.ClassFile.FieldType.int), 1, 22)
def i12_setFor : MI := (⟨"CallStepsModel", "setFor", "(I)I"⟩, prog_14_method_94_code, 3, (Option.some Jvm.ClassFile.FieldType.int), 0, 0)
def i12_setBehind : MI := (⟨"CallStepsModel", "setBehind", "(II)I"⟩, prog_14_method_95_code, 6, (Option.some Jvm.ClassFile.FieldType.int), 2, 47)
def i12_isGoodSet : MI := (⟨"CallStepsModel", "isGoodSet", "(I)Z"⟩, prog_14_method_96_code, 3, (Option.some Jvm.ClassFile.FieldType.boolean), 1, 22)
def i12_laysParts : MI := (⟨"CallStepsModel", "laysParts", "()V"⟩, prog_14_method_98_code, 3, (Option.none : Option Jvm.ClassFile.FieldType), 2, 43)
def i12_layMachines : MI := (⟨"CallStepsModel", "layMachines", "()V"⟩, prog_14_method_97_code, 3, (Option.none : Option Jvm.ClassFile.FieldType), 6, 145)
def i12_nodeFor : MI := (⟨"CallStepsModel", "nodeFor", "(I)I"⟩, prog_14_method_100_code, 3, (Option.some Jvm.ClassFile.FieldType.int), 0, 0)
def i12_layMachine : MI := (⟨"CallStepsModel", "layMachine", "(I)V"⟩, prog_14_method_101_code, 4, (Option.none : Option Jvm.ClassFile.FieldType), 7, 167)
def i12_good : MI := (⟨"CallStepsModel", "good", "(II)I"⟩, prog_14_method_104_code, 3, (Option.some Jvm.ClassFile.FieldType.int), 8, 190)
def i12_greater : MI := (⟨"CallStepsModel", "greater", "(II)I"⟩, prog_14_method_5_code, 2, (Option.some Jvm.ClassFile.FieldType.int), 0, 0)
def i12_riseBy : MI := (⟨"CallStepsModel", "riseBy", "(I)I"⟩, prog_14_method_81_code, 5, (Option.some Jvm.ClassFile.FieldType.int), 3, 70)
def i12_layRise : MI := (⟨"CallStepsModel", "layRise", "()V"⟩, prog_14_method_80_code, 5, (Option.none : Option Jvm.ClassFile.FieldType), 6, 145)
def i12_height : MI := (⟨"CallStepsModel", "height", "()I"⟩, prog_14_method_84_code, 4, (Option.some Jvm.ClassFile.FieldType.int), 7, 169)
def i12_init : MI := (⟨"CallStepsModel", "<init>", "()V"⟩, prog_14_method_1_code, 1, (Option.none : Option Jvm.ClassFile.FieldType), 1, 20)
def i12_isAt : MI := (⟨"CallStepsModel", "isAt", "(I[II)Z"⟩, prog_14_method_46_code, 8, (Option.some Jvm.ClassFile.FieldType.boolean), 0, 0)
def i12_isFull : MI := (⟨"CallStepsModel", "isFull", "(II)Z"⟩, prog_14_method_35_code, 3, (Option.some Jvm.ClassFile.FieldType.boolean), 1, 21)
def i12_isHead : MI := (⟨"CallStepsModel", "isHead", "(II)Z"⟩, prog_14_method_72_code, 3, (Option.some Jvm.ClassFile.FieldType.boolean), 2, 43)
def i12_isRule : MI := (⟨"CallStepsModel", "isRule", "(I)Z"⟩, prog_14_method_13_code, 2, (Option.some Jvm.ClassFile.FieldType.boolean), 1, 22)
def i12_isWay : MI := (⟨"CallStepsModel", "isWay", "(J)Z"⟩, prog_14_method_70_code, 10, (Option.some Jvm.ClassFile.FieldType.boolean), 4, 103)
def i12_lasts : MI := (⟨"CallStepsModel", "lasts", "(II)I"⟩, prog_14_method_87_code, 3, (Option.some Jvm.ClassFile.FieldType.int), 7, 169)
def i12_layFar : MI := (⟨"CallStepsModel", "layFar", "()V"⟩, prog_14_method_106_code, 5, (Option.none : Option Jvm.ClassFile.FieldType), 2, 44)
def i12_popCell : MI := (⟨"CallStepsModel", "popCell", "(III)I"⟩, prog_14_method_90_code, 4, (Option.some Jvm.ClassFile.FieldType.int), 1, 22)
def i12_longer : MI := (⟨"CallStepsModel", "longer", "(JJ)J"⟩, prog_14_method_8_code, 4, (Option.some Jvm.ClassFile.FieldType.long), 0, 0)
def i12_mostBy : MI := (⟨"CallStepsModel", "mostBy", "(I)V"⟩, prog_14_method_92_code, 12, (Option.none : Option Jvm.ClassFile.FieldType), 2, 45)
def i12_layMost : MI := (⟨"CallStepsModel", "layMost", "()V"⟩, prog_14_method_91_code, 3, (Option.none : Option Jvm.ClassFile.FieldType), 3, 76)
def i12_longest : MI := (⟨"CallStepsModel", "longest", "()J"⟩, prog_14_method_93_code, 6, (Option.some Jvm.ClassFile.FieldType.long), 8, 191)
def i12_machine : MI := (⟨"CallStepsModel", "machine", "(I)I"⟩, prog_14_method_102_code, 2, (Option.some Jvm.ClassFile.FieldType.int), 8, 190)
def i12_matters : MI := (⟨"CallStepsModel", "matters", "(I)J"⟩, prog_14_method_74_code, 6, (Option.some Jvm.ClassFile.FieldType.long), 7, 165)
def i12_newGoal : MI := (⟨"CallStepsModel", "newGoal", "()V"⟩, prog_14_method_34_code, 3, (Option.none : Option Jvm.ClassFile.FieldType), 4, 85)
def i12_newName : MI := (⟨"CallStepsModel", "newName", "(I)V"⟩, prog_14_method_32_code, 2, (Option.none : Option Jvm.ClassFile.FieldType), 3, 62)
def i12_newRule : MI := (⟨"CallStepsModel", "newRule", "()V"⟩, prog_14_method_33_code, 3, (Option.none : Option Jvm.ClassFile.FieldType), 4, 85)
def i12_next : MI := (⟨"CallStepsModel", "next", "(III)I"⟩, prog_14_method_103_code, 4, (Option.some Jvm.ClassFile.FieldType.int), 8, 190)
def i12_now : MI := (⟨"CallStepsModel", "now", "(I)I"⟩, prog_14_method_47_code, 2, (Option.some Jvm.ClassFile.FieldType.int), 1, 27)
def i12_outsAre : MI := (⟨"CallStepsModel", "outsAre", "(I)V"⟩, prog_14_method_44_code, 2, (Option.none : Option Jvm.ClassFile.FieldType), 0, 0)
def i12_out : MI := (⟨"CallStepsModel", "out", "(IZ)Z"⟩, prog_14_method_53_code, 3, (Option.some Jvm.ClassFile.FieldType.boolean), 2, 43)
def i12_pops : MI := (⟨"CallStepsModel", "pops", "(III)J"⟩, prog_14_method_73_code, 4, (Option.some Jvm.ClassFile.FieldType.long), 6, 145)
def i12_readLine : MI := (⟨"CallStepsModel", "readLine", "()V"⟩, prog_14_method_36_code, 1, (Option.none : Option Jvm.ClassFile.FieldType), 5, 107)
def i12_rises : MI := (⟨"CallStepsModel", "rises", "(II)I"⟩, prog_14_method_82_code, 3, (Option.some Jvm.ClassFile.FieldType.int), 7, 169)
def i12_rule : MI := (⟨"CallStepsModel", "rule", "(II)I"⟩, prog_14_method_40_code, 3, (Option.some Jvm.ClassFile.FieldType.int), 2, 43)
def i12_run : MI := (⟨"CallStepsModel", "run", "(II)I"⟩, prog_14_method_52_code, 9, (Option.some Jvm.ClassFile.FieldType.int), 3, 67)
def i12_same : MI := (⟨"CallStepsModel", "same", "(II)I"⟩, prog_14_method_108_code, 3, (Option.some Jvm.ClassFile.FieldType.int), 7, 167)
def i12_shortest : MI := (⟨"CallStepsModel", "shortest", "(II)I"⟩, prog_14_method_107_code, 6, (Option.some Jvm.ClassFile.FieldType.int), 8, 190)
def i12_stacks : MI := (⟨"CallStepsModel", "stacks", "(II)J"⟩, prog_14_method_105_code, 10, (Option.some Jvm.ClassFile.FieldType.long), 8, 190)
def i12_step : MI := (⟨"CallStepsModel", "step", "(I)I"⟩, prog_14_method_51_code, 2, (Option.some Jvm.ClassFile.FieldType.int), 3, 67)
def i12_stuck : MI := (⟨"CallStepsModel", "stuck", "()J"⟩, prog_14_method_77_code, 7, (Option.some Jvm.ClassFile.FieldType.long), 6, 147)
def i12_system : MI := (⟨"CallStepsModel", "system", "()I"⟩, prog_14_method_37_code, 2, (Option.some Jvm.ClassFile.FieldType.int), 6, 127)
def i12_thrown : MI := (⟨"CallStepsModel", "thrown", "()I"⟩, prog_14_method_2_code, 1, (Option.some Jvm.ClassFile.FieldType.int), 0, 0)
def i12_undo : MI := (⟨"CallStepsModel", "undo", "()Z"⟩, prog_14_method_43_code, 3, (Option.some Jvm.ClassFile.FieldType.boolean), 1, 21)
def i12_way : MI := (⟨"CallStepsModel", "way", "(I)I"⟩, prog_14_method_71_code, 4, (Option.some Jvm.ClassFile.FieldType.int), 7, 165)
theorem k_i_1 : Int32.ofInt (1) = (1 : Int32) := by decide +kernel
theorem kc_jInteger_265 : Cond.constant "java/lang/Integer" 265 (1431655765 : Int32) ∈ gT := (gk4 4 rfl rfl)
theorem kc_jInteger_266 : Cond.constant "java/lang/Integer" 266 (858993459 : Int32) ∈ gT := (gk4 5 rfl rfl)
theorem k_i_2 : Int32.ofInt (2) = (2 : Int32) := by decide +kernel
theorem k_i_4 : Int32.ofInt (4) = (4 : Int32) := by decide +kernel
theorem kc_jInteger_267 : Cond.constant "java/lang/Integer" 267 (252645135 : Int32) ∈ gT := (gk4 6 rfl rfl)
theorem k_b_8 : (Int8.ofInt (8)).toInt32 = (8 : Int32) := by decide +kernel
theorem k_b_16 : (Int8.ofInt (16)).toInt32 = (16 : Int32) := by decide +kernel
theorem k_b_63 : (Int8.ofInt (63)).toInt32 = (63 : Int32) := by decide +kernel
theorem ac_int : Cond.arrayClass .int ∈ gT := (gk1 63 rfl rfl)
theorem k_i_0 : Int32.ofInt (0) = (0 : Int32) := by decide +kernel
theorem mw_jArrays_304 : Cond.methodLink "java/util/Arrays" 304 Lib.Math.min.name ∈ gT ∧ Cond.static Lib.Math.min.name ∈ gT ∧ Cond.initialized "java/lang/Math" ∈ gT ∧ Cond.code Lib.Math.min.name Lib.Math.min.code 2 (some .int) ∈ gT := ⟨(gk5 121 rfl rfl), (gk4 218 rfl rfl), (gk1 16 rfl rfl), (gk4 219 rfl rfl)⟩
theorem ac_long : Cond.arrayClass .long ∈ gT := (gk1 80 rfl rfl)
theorem fg_x0_24 : FG "CallSteps$Acts" 24 0 2 0 := ⟨rfl, RX0, TX0, 3, rfl, by decide, (gk1 196 rfl rfl), ing0⟩
theorem fp_x0_24 : FP "CallSteps$Acts" 24 0 2 0 false .int := ⟨rfl, RX0, TX0, 3, tyX0, ⟨rfl, by decide, (gk1 196 rfl rfl), ing0⟩, tyX0_ok, nmX0, rfl, rfl, rfl⟩
theorem fg_x3_9 : FG "CallSteps$Ints" 9 3 0 2 := ⟨rfl, RX3, TX3, 1, rfl, by decide, (gk1 87 rfl rfl), ing3⟩
theorem fp_x3_9 : FP "CallSteps$Ints" 9 3 0 2 false (.array .int) := ⟨rfl, RX3, TX3, 1, tyX3, ⟨rfl, by decide, (gk1 87 rfl rfl), ing3⟩, tyX3_ok, nmX3, rfl, rfl, rfl⟩
theorem oi_x3_3 : Cond.methodLink "CallSteps$Ints" 3 objectInit ∈ gT ∧ Cond.instanceMethod objectInit ∈ gT ∧ Cond.code objectInit ⟨#[0xb1]⟩ 1 none ∈ gT := ⟨(gk1 86 rfl rfl), (gk1 28 rfl rfl), (gk1 29 rfl rfl)⟩
theorem oi_x0_5 : Cond.methodLink "CallSteps$Acts" 5 objectInit ∈ gT ∧ Cond.instanceMethod objectInit ∈ gT ∧ Cond.code objectInit ⟨#[0xb1]⟩ 1 none ∈ gT := ⟨(gk1 191 rfl rfl), (gk1 28 rfl rfl), (gk1 29 rfl rfl)⟩
theorem nc_x0_11 : NC "CallSteps$Acts" 11 3 1 := ⟨RX3, TX3, tyX3, rfl, (gk1 192 rfl rfl), (gk1 82 rfl rfl), (gk1 5 rfl rfl), ing3, tyX3_ok, by decide +kernel⟩
theorem k_s_516 : (Int16.ofInt (516)).toInt32 = (516 : Int32) := by decide +kernel
theorem nmh_x3 : "CallSteps$Ints" ≠ "java/lang/invoke/MethodHandle" ∧ "CallSteps$Ints" ≠ "java/lang/invoke/VarHandle" := by decide +kernel
theorem pd_0 : (parseMethodDescriptor "(I)V").map (fun d => d.parameters.length) = some 1 := by decide +kernel
theorem mb3_init : Cond.code (iy i3_init) (ib i3_init) (iL i3_init) (ir i3_init) ∈ gT ∧ Cond.initialized (iy i3_init).cls ∈ gT ∧ ((iy i3_init).cls ≠ "java/lang/invoke/MethodHandle" ∧ (iy i3_init).cls ≠ "java/lang/invoke/VarHandle" ∧ (parseMethodDescriptor (iy i3_init).desc).map (fun d => d.parameters.length) = some 1) := ⟨(gk1 85 rfl rfl), (gk1 5 rfl rfl), nmh_x3.1, nmh_x3.2, pd_0⟩
theorem cb_x0_13 : CB "CallSteps$Acts" 13 i3_init 1 := ⟨(gk1 193 rfl rfl), mb3_init⟩
theorem ci_x0_13 : CIw "CallSteps$Acts" 13 i3_init 1 := ⟨cb_x0_13, rfl, (gk1 84 rfl rfl), rfl⟩
theorem fg_x0_16 : FG "CallSteps$Acts" 16 0 0 2 := ⟨rfl, RX0, TX0, 3, rfl, by decide, (gk1 194 rfl rfl), ing0⟩
theorem fp_x0_16 : FP "CallSteps$Acts" 16 0 0 2 true (.object "CallSteps$Ints") := ⟨rfl, RX0, TX0, 3, tyX0, ⟨rfl, by decide, (gk1 194 rfl rfl), ing0⟩, tyX0_ok, nmX0, rfl, rfl, rfl⟩
theorem fg_x0_20 : FG "CallSteps$Acts" 20 0 1 0 := ⟨rfl, RX0, TX0, 3, rfl, by decide, (gk1 195 rfl rfl), ing0⟩
theorem fp_x0_20 : FP "CallSteps$Acts" 20 0 1 0 false .int := ⟨rfl, RX0, TX0, 3, tyX0, ⟨rfl, by decide, (gk1 195 rfl rfl), ing0⟩, tyX0_ok, nmX0, rfl, rfl, rfl⟩
theorem k_b_12 : (Int8.ofInt (12)).toInt32 = (12 : Int32) := by decide +kernel
theorem k_b_43 : (Int8.ofInt (43)).toInt32 = (43 : Int32) := by decide +kernel
theorem k_i_m1 : Int32.ofInt (-1) = (-1 : Int32) := by decide +kernel
theorem fg_x6_26 : FG "CallSteps$Place" 26 6 1 2 := ⟨rfl, RX6, TX6, 4, rfl, by decide, (gk1 162 rfl rfl), ing6⟩
theorem pd_1 : (parseMethodDescriptor "(I)I").map (fun d => d.parameters.length) = some 1 := by decide +kernel
theorem mb3_get : Cond.code (iy i3_get) (ib i3_get) (iL i3_get) (ir i3_get) ∈ gT ∧ Cond.initialized (iy i3_get).cls ∈ gT ∧ ((iy i3_get).cls ≠ "java/lang/invoke/MethodHandle" ∧ (iy i3_get).cls ≠ "java/lang/invoke/VarHandle" ∧ (parseMethodDescriptor (iy i3_get).desc).map (fun d => d.parameters.length) = some 1) := ⟨(gk3 135 rfl rfl), (gk1 5 rfl rfl), nmh_x3.1, nmh_x3.2, pd_1⟩
theorem cb_x6_40 : CB "CallSteps$Place" 40 i3_get 1 := ⟨(gk3 162 rfl rfl), mb3_get⟩
theorem mv3_get : Cond.instanceMethod (iy i3_get) ∈ gT ∧ Cond.selects (iy i3_get).cls (iy i3_get) (iy i3_get) ∈ gT ∧ vwCl[3]?.map (fun q => q.1) = some (iy i3_get).cls := ⟨(gk3 133 rfl rfl), (gk3 134 rfl rfl), rfl⟩
theorem cv_x6_40 : CVw "CallSteps$Place" 40 i3_get 1 3 := ⟨cb_x6_40, mv3_get⟩
theorem fg_x0_40 : FG "CallSteps$Acts" 40 6 3 0 := ⟨rfl, RX6, TX6, 4, rfl, by decide, (gk1 171 rfl rfl), ing6⟩
theorem k_i_3 : Int32.ofInt (3) = (3 : Int32) := by decide +kernel
theorem nmh_x6 : "CallSteps$Place" ≠ "java/lang/invoke/MethodHandle" ∧ "CallSteps$Place" ≠ "java/lang/invoke/VarHandle" := by decide +kernel
theorem mb6_signAt : Cond.code (iy i6_signAt) (ib i6_signAt) (iL i6_signAt) (ir i6_signAt) ∈ gT ∧ Cond.initialized (iy i6_signAt).cls ∈ gT ∧ ((iy i6_signAt).cls ≠ "java/lang/invoke/MethodHandle" ∧ (iy i6_signAt).cls ≠ "java/lang/invoke/VarHandle" ∧ (parseMethodDescriptor (iy i6_signAt).desc).map (fun d => d.parameters.length) = some 1) := ⟨(gk3 175 rfl rfl), (gk1 7 rfl rfl), nmh_x6.1, nmh_x6.2, pd_1⟩
theorem cb_x0_43 : CB "CallSteps$Acts" 43 i6_signAt 1 := ⟨(gk3 172 rfl rfl), mb6_signAt⟩
theorem mv6_signAt : Cond.instanceMethod (iy i6_signAt) ∈ gT ∧ Cond.selects (iy i6_signAt).cls (iy i6_signAt) (iy i6_signAt) ∈ gT ∧ vwCl[6]?.map (fun q => q.1) = some (iy i6_signAt).cls := ⟨(gk3 173 rfl rfl), (gk3 174 rfl rfl), rfl⟩
theorem cv_x0_43 : CVw "CallSteps$Acts" 43 i6_signAt 1 6 := ⟨cb_x0_43, mv6_signAt⟩
theorem pd_2 : (parseMethodDescriptor "(II)V").map (fun d => d.parameters.length) = some 2 := by decide +kernel
theorem mb3_set : Cond.code (iy i3_set) (ib i3_set) (iL i3_set) (ir i3_set) ∈ gT ∧ Cond.initialized (iy i3_set).cls ∈ gT ∧ ((iy i3_set).cls ≠ "java/lang/invoke/MethodHandle" ∧ (iy i3_set).cls ≠ "java/lang/invoke/VarHandle" ∧ (parseMethodDescriptor (iy i3_set).desc).map (fun d => d.parameters.length) = some 2) := ⟨(gk3 63 rfl rfl), (gk1 5 rfl rfl), nmh_x3.1, nmh_x3.2, pd_2⟩
theorem cb_x0_36 : CB "CallSteps$Acts" 36 i3_set 2 := ⟨(gk3 171 rfl rfl), mb3_set⟩
theorem mv3_set : Cond.instanceMethod (iy i3_set) ∈ gT ∧ Cond.selects (iy i3_set).cls (iy i3_set) (iy i3_set) ∈ gT ∧ vwCl[3]?.map (fun q => q.1) = some (iy i3_set).cls := ⟨(gk3 61 rfl rfl), (gk3 62 rfl rfl), rfl⟩
theorem cv_x0_36 : CVw "CallSteps$Acts" 36 i3_set 2 3 := ⟨cb_x0_36, mv3_set⟩
theorem nmh_x0 : "CallSteps$Acts" ≠ "java/lang/invoke/MethodHandle" ∧ "CallSteps$Acts" ≠ "java/lang/invoke/VarHandle" := by decide +kernel
theorem mb0_startOf : Cond.code (iy i0_startOf) (ib i0_startOf) (iL i0_startOf) (ir i0_startOf) ∈ gT ∧ Cond.initialized (iy i0_startOf).cls ∈ gT ∧ ((iy i0_startOf).cls ≠ "java/lang/invoke/MethodHandle" ∧ (iy i0_startOf).cls ≠ "java/lang/invoke/VarHandle" ∧ (parseMethodDescriptor (iy i0_startOf).desc).map (fun d => d.parameters.length) = some 1) := ⟨(gk3 170 rfl rfl), (gk1 8 rfl rfl), nmh_x0.1, nmh_x0.2, pd_1⟩
theorem cb_x0_27 : CB "CallSteps$Acts" 27 i0_startOf 1 := ⟨(gk3 167 rfl rfl), mb0_startOf⟩
theorem mv0_startOf : Cond.instanceMethod (iy i0_startOf) ∈ gT ∧ Cond.selects (iy i0_startOf).cls (iy i0_startOf) (iy i0_startOf) ∈ gT ∧ vwCl[0]?.map (fun q => q.1) = some (iy i0_startOf).cls := ⟨(gk3 169 rfl rfl), (gp2 5 rfl), rfl⟩
theorem cv_x0_27 : CVw "CallSteps$Acts" 27 i0_startOf 1 0 := ⟨cb_x0_27, mv0_startOf⟩
theorem fg_x0_31 : FG "CallSteps$Acts" 31 6 2 0 := ⟨rfl, RX6, TX6, 4, rfl, by decide, (gk1 164 rfl rfl), ing6⟩
theorem fg_x6_9 : FG "CallSteps$Place" 9 6 2 0 := ⟨rfl, RX6, TX6, 4, rfl, by decide, (gk1 163 rfl rfl), ing6⟩
theorem fp_x6_9 : FP "CallSteps$Place" 9 6 2 0 false .int := ⟨rfl, RX6, TX6, 4, tyX6, ⟨rfl, by decide, (gk1 163 rfl rfl), ing6⟩, tyX6_ok, nmX6, rfl, rfl, rfl⟩
theorem fg_x6_15 : FG "CallSteps$Place" 15 6 3 0 := ⟨rfl, RX6, TX6, 4, rfl, by decide, (gk1 170 rfl rfl), ing6⟩
theorem fp_x6_15 : FP "CallSteps$Place" 15 6 3 0 false .int := ⟨rfl, RX6, TX6, 4, tyX6, ⟨rfl, by decide, (gk1 170 rfl rfl), ing6⟩, tyX6_ok, nmX6, rfl, rfl, rfl⟩
theorem fg_x6_18 : FG "CallSteps$Place" 18 6 0 0 := ⟨rfl, RX6, TX6, 4, rfl, by decide, (gk1 161 rfl rfl), ing6⟩
theorem cb_x6_43 : CB "CallSteps$Place" 43 i3_set 2 := ⟨(gk3 157 rfl rfl), mb3_set⟩
theorem cv_x6_43 : CVw "CallSteps$Place" 43 i3_set 2 3 := ⟨cb_x6_43, mv3_set⟩
theorem cb_x0_46 : CB "CallSteps$Acts" 46 i3_get 1 := ⟨(gk4 19 rfl rfl), mb3_get⟩
theorem cv_x0_46 : CVw "CallSteps$Acts" 46 i3_get 1 3 := ⟨cb_x0_46, mv3_get⟩
theorem fp_x0_31 : FP "CallSteps$Acts" 31 6 2 0 false .int := ⟨rfl, RX6, TX6, 4, tyX6, ⟨rfl, by decide, (gk1 164 rfl rfl), ing6⟩, tyX6_ok, nmX6, rfl, rfl, rfl⟩
theorem mb6_push : Cond.code (iy i6_push) (ib i6_push) (iL i6_push) (ir i6_push) ∈ gT ∧ Cond.initialized (iy i6_push).cls ∈ gT ∧ ((iy i6_push).cls ≠ "java/lang/invoke/MethodHandle" ∧ (iy i6_push).cls ≠ "java/lang/invoke/VarHandle" ∧ (parseMethodDescriptor (iy i6_push).desc).map (fun d => d.parameters.length) = some 1) := ⟨(gk3 156 rfl rfl), (gk1 7 rfl rfl), nmh_x6.1, nmh_x6.2, pd_0⟩
theorem cb_x0_52 : CB "CallSteps$Acts" 52 i6_push 1 := ⟨(gk4 21 rfl rfl), mb6_push⟩
theorem mv6_push : Cond.instanceMethod (iy i6_push) ∈ gT ∧ Cond.selects (iy i6_push).cls (iy i6_push) (iy i6_push) ∈ gT ∧ vwCl[6]?.map (fun q => q.1) = some (iy i6_push).cls := ⟨(gk3 154 rfl rfl), (gk3 155 rfl rfl), rfl⟩
theorem cv_x0_52 : CVw "CallSteps$Acts" 52 i6_push 1 6 := ⟨cb_x0_52, mv6_push⟩
theorem pd_3 : (parseMethodDescriptor "()V").map (fun d => d.parameters.length) = some 0 := by decide +kernel
theorem mb6_forget : Cond.code (iy i6_forget) (ib i6_forget) (iL i6_forget) (ir i6_forget) ∈ gT ∧ Cond.initialized (iy i6_forget).cls ∈ gT ∧ ((iy i6_forget).cls ≠ "java/lang/invoke/MethodHandle" ∧ (iy i6_forget).cls ≠ "java/lang/invoke/VarHandle" ∧ (parseMethodDescriptor (iy i6_forget).desc).map (fun d => d.parameters.length) = some 0) := ⟨(gk3 99 rfl rfl), (gk1 7 rfl rfl), nmh_x6.1, nmh_x6.2, pd_3⟩
theorem cb_x0_49 : CB "CallSteps$Acts" 49 i6_forget 0 := ⟨(gk4 20 rfl rfl), mb6_forget⟩
theorem mv6_forget : Cond.instanceMethod (iy i6_forget) ∈ gT ∧ Cond.selects (iy i6_forget).cls (iy i6_forget) (iy i6_forget) ∈ gT ∧ vwCl[6]?.map (fun q => q.1) = some (iy i6_forget).cls := ⟨(gk3 97 rfl rfl), (gk3 98 rfl rfl), rfl⟩
theorem cv_x0_49 : CVw "CallSteps$Acts" 49 i6_forget 0 6 := ⟨cb_x0_49, mv6_forget⟩
theorem fg_x7_30 : FG "CallSteps$Program" 30 7 3 2 := ⟨rfl, RX7, TX7, 8, rfl, by decide, (gk1 94 rfl rfl), ing7⟩
theorem k_b_6 : (Int8.ofInt (6)).toInt32 = (6 : Int32) := by decide +kernel
theorem cb_x7_57 : CB "CallSteps$Program" 57 i3_get 1 := ⟨(gk3 132 rfl rfl), mb3_get⟩
theorem cv_x7_57 : CVw "CallSteps$Program" 57 i3_get 1 3 := ⟨cb_x7_57, mv3_get⟩
theorem fg_x4_13 : FG "CallSteps$Longs" 13 4 0 2 := ⟨rfl, RX4, TX4, 1, rfl, by decide, (gk1 76 rfl rfl), ing4⟩
theorem fg_x1_20 : FG "CallSteps$Costs" 20 1 1 2 := ⟨rfl, RX1, TX1, 2, rfl, by decide, (gk1 214 rfl rfl), ing1⟩
theorem k_l_0 : Int64.ofNat ((0 : Fin 2) : Nat) = (0 : Int64) := by decide +kernel
theorem nmh_x4 : "CallSteps$Longs" ≠ "java/lang/invoke/MethodHandle" ∧ "CallSteps$Longs" ≠ "java/lang/invoke/VarHandle" := by decide +kernel
theorem pd_4 : (parseMethodDescriptor "(IJ)V").map (fun d => d.parameters.length) = some 2 := by decide +kernel
theorem mb4_set : Cond.code (iy i4_set) (ib i4_set) (iL i4_set) (ir i4_set) ∈ gT ∧ Cond.initialized (iy i4_set).cls ∈ gT ∧ ((iy i4_set).cls ≠ "java/lang/invoke/MethodHandle" ∧ (iy i4_set).cls ≠ "java/lang/invoke/VarHandle" ∧ (parseMethodDescriptor (iy i4_set).desc).map (fun d => d.parameters.length) = some 2) := ⟨(gk3 29 rfl rfl), (gk1 4 rfl rfl), nmh_x4.1, nmh_x4.2, pd_4⟩
theorem cb_x1_33 : CB "CallSteps$Costs" 33 i4_set 2 := ⟨(gk4 56 rfl rfl), mb4_set⟩
theorem mv4_set : Cond.instanceMethod (iy i4_set) ∈ gT ∧ Cond.selects (iy i4_set).cls (iy i4_set) (iy i4_set) ∈ gT ∧ vwCl[4]?.map (fun q => q.1) = some (iy i4_set).cls := ⟨(gk3 27 rfl rfl), (gk3 28 rfl rfl), rfl⟩
theorem cv_x1_33 : CVw "CallSteps$Costs" 33 i4_set 2 4 := ⟨cb_x1_33, mv4_set⟩
theorem kc_x4_3 : Cond.constantLong "CallSteps$Longs" 3 (1000000000000001 : Int64) ∈ gT := (gk3 17 rfl rfl)
theorem k_b_15 : (Int8.ofInt (15)).toInt32 = (15 : Int32) := by decide +kernel
theorem fg_x1_16 : FG "CallSteps$Costs" 16 1 0 2 := ⟨rfl, RX1, TX1, 2, rfl, by decide, (gk1 213 rfl rfl), ing1⟩
theorem pd_5 : (parseMethodDescriptor "(I)J").map (fun d => d.parameters.length) = some 1 := by decide +kernel
theorem mb4_get : Cond.code (iy i4_get) (ib i4_get) (iL i4_get) (ir i4_get) ∈ gT ∧ Cond.initialized (iy i4_get).cls ∈ gT ∧ ((iy i4_get).cls ≠ "java/lang/invoke/MethodHandle" ∧ (iy i4_get).cls ≠ "java/lang/invoke/VarHandle" ∧ (parseMethodDescriptor (iy i4_get).desc).map (fun d => d.parameters.length) = some 1) := ⟨(gk3 16 rfl rfl), (gk1 4 rfl rfl), nmh_x4.1, nmh_x4.2, pd_5⟩
theorem cb_x1_64 : CB "CallSteps$Costs" 64 i4_get 1 := ⟨(gk4 55 rfl rfl), mb4_get⟩
theorem mv4_get : Cond.instanceMethod (iy i4_get) ∈ gT ∧ Cond.selects (iy i4_get).cls (iy i4_get) (iy i4_get) ∈ gT ∧ vwCl[4]?.map (fun q => q.1) = some (iy i4_get).cls := ⟨(gk3 14 rfl rfl), (gk3 15 rfl rfl), rfl⟩
theorem cv_x1_64 : CVw "CallSteps$Costs" 64 i4_get 1 4 := ⟨cb_x1_64, mv4_get⟩
theorem k_i_5 : Int32.ofInt (5) = (5 : Int32) := by decide +kernel
theorem nmh_x1 : "CallSteps$Costs" ≠ "java/lang/invoke/MethodHandle" ∧ "CallSteps$Costs" ≠ "java/lang/invoke/VarHandle" := by decide +kernel
theorem pd_6 : (parseMethodDescriptor "(IIIJ)Z").map (fun d => d.parameters.length) = some 4 := by decide +kernel
theorem mb1_lower : Cond.code (iy i1_lower) (ib i1_lower) (iL i1_lower) (ir i1_lower) ∈ gT ∧ Cond.initialized (iy i1_lower).cls ∈ gT ∧ ((iy i1_lower).cls ≠ "java/lang/invoke/MethodHandle" ∧ (iy i1_lower).cls ≠ "java/lang/invoke/VarHandle" ∧ (parseMethodDescriptor (iy i1_lower).desc).map (fun d => d.parameters.length) = some 4) := ⟨(gk4 54 rfl rfl), (gk1 9 rfl rfl), nmh_x1.1, nmh_x1.2, pd_6⟩
theorem cb_x1_29 : CB "CallSteps$Costs" 29 i1_lower 4 := ⟨(gk4 51 rfl rfl), mb1_lower⟩
theorem mv1_lower : Cond.instanceMethod (iy i1_lower) ∈ gT ∧ Cond.selects (iy i1_lower).cls (iy i1_lower) (iy i1_lower) ∈ gT ∧ vwCl[1]?.map (fun q => q.1) = some (iy i1_lower).cls := ⟨(gk4 53 rfl rfl), (gp2 10 rfl), rfl⟩
theorem cv_x1_29 : CVw "CallSteps$Costs" 29 i1_lower 4 1 := ⟨cb_x1_29, mv1_lower⟩
theorem nmh_x7 : "CallSteps$Program" ≠ "java/lang/invoke/MethodHandle" ∧ "CallSteps$Program" ≠ "java/lang/invoke/VarHandle" := by decide +kernel
theorem pd_7 : (parseMethodDescriptor "(II)I").map (fun d => d.parameters.length) = some 2 := by decide +kernel
theorem mb7_ofGoal : Cond.code (iy i7_ofGoal) (ib i7_ofGoal) (iL i7_ofGoal) (ir i7_ofGoal) ∈ gT ∧ Cond.initialized (iy i7_ofGoal).cls ∈ gT ∧ ((iy i7_ofGoal).cls ≠ "java/lang/invoke/MethodHandle" ∧ (iy i7_ofGoal).cls ≠ "java/lang/invoke/VarHandle" ∧ (parseMethodDescriptor (iy i7_ofGoal).desc).map (fun d => d.parameters.length) = some 2) := ⟨(gk3 143 rfl rfl), (gk1 3 rfl rfl), nmh_x7.1, nmh_x7.2, pd_7⟩
theorem cb_x1_56 : CB "CallSteps$Costs" 56 i7_ofGoal 2 := ⟨(gk4 65 rfl rfl), mb7_ofGoal⟩
theorem mv7_ofGoal : Cond.instanceMethod (iy i7_ofGoal) ∈ gT ∧ Cond.selects (iy i7_ofGoal).cls (iy i7_ofGoal) (iy i7_ofGoal) ∈ gT ∧ vwCl[7]?.map (fun q => q.1) = some (iy i7_ofGoal).cls := ⟨(gk3 141 rfl rfl), (gk3 142 rfl rfl), rfl⟩
theorem cv_x1_56 : CVw "CallSteps$Costs" 56 i7_ofGoal 2 7 := ⟨cb_x1_56, mv7_ofGoal⟩
theorem k_b_7 : (Int8.ofInt (7)).toInt32 = (7 : Int32) := by decide +kernel
theorem fg_x1_40 : FG "CallSteps$Costs" 40 7 5 0 := ⟨rfl, RX7, TX7, 8, rfl, by decide, (gk1 102 rfl rfl), ing7⟩
theorem mb1_aimAtHead : Cond.code (iy i1_aimAtHead) (ib i1_aimAtHead) (iL i1_aimAtHead) (ir i1_aimAtHead) ∈ gT ∧ Cond.initialized (iy i1_aimAtHead).cls ∈ gT ∧ ((iy i1_aimAtHead).cls ≠ "java/lang/invoke/MethodHandle" ∧ (iy i1_aimAtHead).cls ≠ "java/lang/invoke/VarHandle" ∧ (parseMethodDescriptor (iy i1_aimAtHead).desc).map (fun d => d.parameters.length) = some 2) := ⟨(gk4 69 rfl rfl), (gk1 9 rfl rfl), nmh_x1.1, nmh_x1.2, pd_2⟩
theorem cb_x1_60 : CB "CallSteps$Costs" 60 i1_aimAtHead 2 := ⟨(gk4 66 rfl rfl), mb1_aimAtHead⟩
theorem mv1_aimAtHead : Cond.instanceMethod (iy i1_aimAtHead) ∈ gT ∧ Cond.selects (iy i1_aimAtHead).cls (iy i1_aimAtHead) (iy i1_aimAtHead) ∈ gT ∧ vwCl[1]?.map (fun q => q.1) = some (iy i1_aimAtHead).cls := ⟨(gk4 67 rfl rfl), (gk4 68 rfl rfl), rfl⟩
theorem cv_x1_60 : CVw "CallSteps$Costs" 60 i1_aimAtHead 2 1 := ⟨cb_x1_60, mv1_aimAtHead⟩
theorem mb1_aimAtNothing : Cond.code (iy i1_aimAtNothing) (ib i1_aimAtNothing) (iL i1_aimAtNothing) (ir i1_aimAtNothing) ∈ gT ∧ Cond.initialized (iy i1_aimAtNothing).cls ∈ gT ∧ ((iy i1_aimAtNothing).cls ≠ "java/lang/invoke/MethodHandle" ∧ (iy i1_aimAtNothing).cls ≠ "java/lang/invoke/VarHandle" ∧ (parseMethodDescriptor (iy i1_aimAtNothing).desc).map (fun d => d.parameters.length) = some 1) := ⟨(gk4 60 rfl rfl), (gk1 9 rfl rfl), nmh_x1.1, nmh_x1.2, pd_0⟩
theorem cb_x1_37 : CB "CallSteps$Costs" 37 i1_aimAtNothing 1 := ⟨(gk4 57 rfl rfl), mb1_aimAtNothing⟩
theorem mv1_aimAtNothing : Cond.instanceMethod (iy i1_aimAtNothing) ∈ gT ∧ Cond.selects (iy i1_aimAtNothing).cls (iy i1_aimAtNothing) (iy i1_aimAtNothing) ∈ gT ∧ vwCl[1]?.map (fun q => q.1) = some (iy i1_aimAtNothing).cls := ⟨(gk4 58 rfl rfl), (gk4 59 rfl rfl), rfl⟩
theorem cv_x1_37 : CVw "CallSteps$Costs" 37 i1_aimAtNothing 1 1 := ⟨cb_x1_37, mv1_aimAtNothing⟩
theorem fg_x7_26 : FG "CallSteps$Program" 26 7 2 2 := ⟨rfl, RX7, TX7, 8, rfl, by decide, (gk1 93 rfl rfl), ing7⟩
theorem kc_x4_5 : Cond.constantLong "CallSteps$Longs" 5 (1000000000000000 : Int64) ∈ gT := (gk4 87 rfl rfl)
theorem pd_8 : (parseMethodDescriptor "(III)J").map (fun d => d.parameters.length) = some 3 := by decide +kernel
theorem mb1_edge : Cond.code (iy i1_edge) (ib i1_edge) (iL i1_edge) (ir i1_edge) ∈ gT ∧ Cond.initialized (iy i1_edge).cls ∈ gT ∧ ((iy i1_edge).cls ≠ "java/lang/invoke/MethodHandle" ∧ (iy i1_edge).cls ≠ "java/lang/invoke/VarHandle" ∧ (parseMethodDescriptor (iy i1_edge).desc).map (fun d => d.parameters.length) = some 3) := ⟨(gk4 83 rfl rfl), (gk1 9 rfl rfl), nmh_x1.1, nmh_x1.2, pd_8⟩
theorem cb_x1_82 : CB "CallSteps$Costs" 82 i1_edge 3 := ⟨(gk4 80 rfl rfl), mb1_edge⟩
theorem mv1_edge : Cond.instanceMethod (iy i1_edge) ∈ gT ∧ Cond.selects (iy i1_edge).cls (iy i1_edge) (iy i1_edge) ∈ gT ∧ vwCl[1]?.map (fun q => q.1) = some (iy i1_edge).cls := ⟨(gk4 81 rfl rfl), (gk4 82 rfl rfl), rfl⟩
theorem cv_x1_82 : CVw "CallSteps$Costs" 82 i1_edge 3 1 := ⟨cb_x1_82, mv1_edge⟩
theorem pd_9 : (parseMethodDescriptor "(II)J").map (fun d => d.parameters.length) = some 2 := by decide +kernel
theorem mb1_left : Cond.code (iy i1_left) (ib i1_left) (iL i1_left) (ir i1_left) ∈ gT ∧ Cond.initialized (iy i1_left).cls ∈ gT ∧ ((iy i1_left).cls ≠ "java/lang/invoke/MethodHandle" ∧ (iy i1_left).cls ≠ "java/lang/invoke/VarHandle" ∧ (parseMethodDescriptor (iy i1_left).desc).map (fun d => d.parameters.length) = some 2) := ⟨(gk4 108 rfl rfl), (gk1 9 rfl rfl), nmh_x1.1, nmh_x1.2, pd_9⟩
theorem cb_x1_109 : CB "CallSteps$Costs" 109 i1_left 2 := ⟨(gk4 105 rfl rfl), mb1_left⟩
theorem mv1_left : Cond.instanceMethod (iy i1_left) ∈ gT ∧ Cond.selects (iy i1_left).cls (iy i1_left) (iy i1_left) ∈ gT ∧ vwCl[1]?.map (fun q => q.1) = some (iy i1_left).cls := ⟨(gk4 106 rfl rfl), (gk4 107 rfl rfl), rfl⟩
theorem cv_x1_109 : CVw "CallSteps$Costs" 109 i1_left 2 1 := ⟨cb_x1_109, mv1_left⟩
theorem pd_10 : (parseMethodDescriptor "(JJ)J").map (fun d => d.parameters.length) = some 2 := by decide +kernel
theorem mb4_sum : Cond.code (iy i4_sum) (ib i4_sum) (iL i4_sum) (ir i4_sum) ∈ gT ∧ Cond.initialized (iy i4_sum).cls ∈ gT ∧ ((iy i4_sum).cls ≠ "java/lang/invoke/MethodHandle" ∧ (iy i4_sum).cls ≠ "java/lang/invoke/VarHandle" ∧ (parseMethodDescriptor (iy i4_sum).desc).map (fun d => d.parameters.length) = some 2) := ⟨(gk4 86 rfl rfl), (gk1 4 rfl rfl), nmh_x4.1, nmh_x4.2, pd_10⟩
theorem cb_x1_86 : CB "CallSteps$Costs" 86 i4_sum 2 := ⟨(gk4 84 rfl rfl), mb4_sum⟩
theorem cs_x1_86 : CSw "CallSteps$Costs" 86 i4_sum 2 := ⟨cb_x1_86, (gk4 85 rfl rfl)⟩
theorem mw_x1_116 : Cond.methodLink "CallSteps$Costs" 116 Lib.MathLoose.min_long.x ∈ gT ∧ Cond.static Lib.MathLoose.min_long.x ∈ gT ∧ Cond.initialized "java/lang/Math" ∈ gT ∧ Cond.code Lib.MathLoose.min_long.x Lib.MathLoose.min_long.code 4 (some .long) ∈ gT := ⟨(gk4 109 rfl rfl), (gk4 110 rfl rfl), (gk1 16 rfl rfl), (gk4 111 rfl rfl)⟩
theorem kc_x1_23 : Cond.constantLong "CallSteps$Costs" 23 (1000000000000001 : Int64) ∈ gT := (gk4 43 rfl rfl)
theorem mb1_leftBy : Cond.code (iy i1_leftBy) (ib i1_leftBy) (iL i1_leftBy) (ir i1_leftBy) ∈ gT ∧ Cond.initialized (iy i1_leftBy).cls ∈ gT ∧ ((iy i1_leftBy).cls ≠ "java/lang/invoke/MethodHandle" ∧ (iy i1_leftBy).cls ≠ "java/lang/invoke/VarHandle" ∧ (parseMethodDescriptor (iy i1_leftBy).desc).map (fun d => d.parameters.length) = some 3) := ⟨(gk4 104 rfl rfl), (gk1 9 rfl rfl), nmh_x1.1, nmh_x1.2, pd_8⟩
theorem cb_x1_113 : CB "CallSteps$Costs" 113 i1_leftBy 3 := ⟨(gk4 101 rfl rfl), mb1_leftBy⟩
theorem mv1_leftBy : Cond.instanceMethod (iy i1_leftBy) ∈ gT ∧ Cond.selects (iy i1_leftBy).cls (iy i1_leftBy) (iy i1_leftBy) ∈ gT ∧ vwCl[1]?.map (fun q => q.1) = some (iy i1_leftBy).cls := ⟨(gk4 103 rfl rfl), (gp2 14 rfl), rfl⟩
theorem cv_x1_113 : CVw "CallSteps$Costs" 113 i1_leftBy 3 1 := ⟨cb_x1_113, mv1_leftBy⟩
theorem fg_x1_94 : FG "CallSteps$Costs" 94 6 3 0 := ⟨rfl, RX6, TX6, 4, rfl, by decide, (gk1 175 rfl rfl), ing6⟩
theorem mb7_ofRule : Cond.code (iy i7_ofRule) (ib i7_ofRule) (iL i7_ofRule) (ir i7_ofRule) ∈ gT ∧ Cond.initialized (iy i7_ofRule).cls ∈ gT ∧ ((iy i7_ofRule).cls ≠ "java/lang/invoke/MethodHandle" ∧ (iy i7_ofRule).cls ≠ "java/lang/invoke/VarHandle" ∧ (parseMethodDescriptor (iy i7_ofRule).desc).map (fun d => d.parameters.length) = some 2) := ⟨(gk3 131 rfl rfl), (gk1 3 rfl rfl), nmh_x7.1, nmh_x7.2, pd_7⟩
theorem cb_x1_79 : CB "CallSteps$Costs" 79 i7_ofRule 2 := ⟨(gk4 79 rfl rfl), mb7_ofRule⟩
theorem mv7_ofRule : Cond.instanceMethod (iy i7_ofRule) ∈ gT ∧ Cond.selects (iy i7_ofRule).cls (iy i7_ofRule) (iy i7_ofRule) ∈ gT ∧ vwCl[7]?.map (fun q => q.1) = some (iy i7_ofRule).cls := ⟨(gk3 129 rfl rfl), (gk3 130 rfl rfl), rfl⟩
theorem cv_x1_79 : CVw "CallSteps$Costs" 79 i7_ofRule 2 7 := ⟨cb_x1_79, mv7_ofRule⟩
theorem fp_x4_13 : FP "CallSteps$Longs" 13 4 0 2 false (.array .long) := ⟨rfl, RX4, TX4, 1, tyX4, ⟨rfl, by decide, (gk1 76 rfl rfl), ing4⟩, tyX4_ok, nmX4, rfl, rfl, rfl⟩
theorem oi_x4_7 : Cond.methodLink "CallSteps$Longs" 7 objectInit ∈ gT ∧ Cond.instanceMethod objectInit ∈ gT ∧ Cond.code objectInit ⟨#[0xb1]⟩ 1 none ∈ gT := ⟨(gk1 75 rfl rfl), (gk1 28 rfl rfl), (gk1 29 rfl rfl)⟩
theorem oi_x1_5 : Cond.methodLink "CallSteps$Costs" 5 objectInit ∈ gT ∧ Cond.instanceMethod objectInit ∈ gT ∧ Cond.code objectInit ⟨#[0xb1]⟩ 1 none ∈ gT := ⟨(gk1 210 rfl rfl), (gk1 28 rfl rfl), (gk1 29 rfl rfl)⟩
theorem nc_x1_11 : NC "CallSteps$Costs" 11 4 1 := ⟨RX4, TX4, tyX4, rfl, (gk1 211 rfl rfl), (gk1 71 rfl rfl), (gk1 4 rfl rfl), ing4, tyX4_ok, by decide +kernel⟩
theorem k_s_1350 : (Int16.ofInt (1350)).toInt32 = (1350 : Int32) := by decide +kernel
theorem mb4_init : Cond.code (iy i4_init) (ib i4_init) (iL i4_init) (ir i4_init) ∈ gT ∧ Cond.initialized (iy i4_init).cls ∈ gT ∧ ((iy i4_init).cls ≠ "java/lang/invoke/MethodHandle" ∧ (iy i4_init).cls ≠ "java/lang/invoke/VarHandle" ∧ (parseMethodDescriptor (iy i4_init).desc).map (fun d => d.parameters.length) = some 1) := ⟨(gk1 74 rfl rfl), (gk1 4 rfl rfl), nmh_x4.1, nmh_x4.2, pd_0⟩
theorem cb_x1_13 : CB "CallSteps$Costs" 13 i4_init 1 := ⟨(gk1 212 rfl rfl), mb4_init⟩
theorem ci_x1_13 : CIw "CallSteps$Costs" 13 i4_init 1 := ⟨cb_x1_13, rfl, (gk1 73 rfl rfl), rfl⟩
theorem fp_x1_16 : FP "CallSteps$Costs" 16 1 0 2 true (.object "CallSteps$Longs") := ⟨rfl, RX1, TX1, 2, tyX1, ⟨rfl, by decide, (gk1 213 rfl rfl), ing1⟩, tyX1_ok, nmX1, rfl, rfl, rfl⟩
theorem fp_x1_20 : FP "CallSteps$Costs" 20 1 1 2 true (.object "CallSteps$Longs") := ⟨rfl, RX1, TX1, 2, tyX1, ⟨rfl, by decide, (gk1 214 rfl rfl), ing1⟩, tyX1_ok, nmX1, rfl, rfl, rfl⟩
theorem pd_11 : (parseMethodDescriptor "(IIIIJ)Z").map (fun d => d.parameters.length) = some 5 := by decide +kernel
theorem mb1_lowerThrough : Cond.code (iy i1_lowerThrough) (ib i1_lowerThrough) (iL i1_lowerThrough) (ir i1_lowerThrough) ∈ gT ∧ Cond.initialized (iy i1_lowerThrough).cls ∈ gT ∧ ((iy i1_lowerThrough).cls ≠ "java/lang/invoke/MethodHandle" ∧ (iy i1_lowerThrough).cls ≠ "java/lang/invoke/VarHandle" ∧ (parseMethodDescriptor (iy i1_lowerThrough).desc).map (fun d => d.parameters.length) = some 5) := ⟨(gk4 91 rfl rfl), (gk1 9 rfl rfl), nmh_x1.1, nmh_x1.2, pd_11⟩
theorem cb_x1_90 : CB "CallSteps$Costs" 90 i1_lowerThrough 5 := ⟨(gk4 88 rfl rfl), mb1_lowerThrough⟩
theorem mv1_lowerThrough : Cond.instanceMethod (iy i1_lowerThrough) ∈ gT ∧ Cond.selects (iy i1_lowerThrough).cls (iy i1_lowerThrough) (iy i1_lowerThrough) ∈ gT ∧ vwCl[1]?.map (fun q => q.1) = some (iy i1_lowerThrough).cls := ⟨(gk4 90 rfl rfl), (gp2 13 rfl), rfl⟩
theorem cv_x1_90 : CVw "CallSteps$Costs" 90 i1_lowerThrough 5 1 := ⟨cb_x1_90, mv1_lowerThrough⟩
theorem fg_x1_106 : FG "CallSteps$Costs" 106 6 2 0 := ⟨rfl, RX6, TX6, 4, rfl, by decide, (gk1 168 rfl rfl), ing6⟩
theorem cb_x1_99 : CB "CallSteps$Costs" 99 i6_signAt 1 := ⟨(gk4 96 rfl rfl), mb6_signAt⟩
theorem cv_x1_99 : CVw "CallSteps$Costs" 99 i6_signAt 1 6 := ⟨cb_x1_99, mv6_signAt⟩
theorem mb1_layRow : Cond.code (iy i1_layRow) (ib i1_layRow) (iL i1_layRow) (ir i1_layRow) ∈ gT ∧ Cond.initialized (iy i1_layRow).cls ∈ gT ∧ ((iy i1_layRow).cls ≠ "java/lang/invoke/MethodHandle" ∧ (iy i1_layRow).cls ≠ "java/lang/invoke/VarHandle" ∧ (parseMethodDescriptor (iy i1_layRow).desc).map (fun d => d.parameters.length) = some 2) := ⟨(gk4 100 rfl rfl), (gk1 9 rfl rfl), nmh_x1.1, nmh_x1.2, pd_2⟩
theorem cb_x1_103 : CB "CallSteps$Costs" 103 i1_layRow 2 := ⟨(gk4 97 rfl rfl), mb1_layRow⟩
theorem mv1_layRow : Cond.instanceMethod (iy i1_layRow) ∈ gT ∧ Cond.selects (iy i1_layRow).cls (iy i1_layRow) (iy i1_layRow) ∈ gT ∧ vwCl[1]?.map (fun q => q.1) = some (iy i1_layRow).cls := ⟨(gk4 98 rfl rfl), (gk4 99 rfl rfl), rfl⟩
theorem cv_x1_103 : CVw "CallSteps$Costs" 103 i1_layRow 2 1 := ⟨cb_x1_103, mv1_layRow⟩
theorem fg_x7_40 : FG "CallSteps$Program" 40 7 6 0 := ⟨rfl, RX7, TX7, 8, rfl, by decide, (gk1 105 rfl rfl), ing7⟩
theorem pd_12 : (parseMethodDescriptor "(I)Z").map (fun d => d.parameters.length) = some 1 := by decide +kernel
theorem mb7_hasRule : Cond.code (iy i7_hasRule) (ib i7_hasRule) (iL i7_hasRule) (ir i7_hasRule) ∈ gT ∧ Cond.initialized (iy i7_hasRule).cls ∈ gT ∧ ((iy i7_hasRule).cls ≠ "java/lang/invoke/MethodHandle" ∧ (iy i7_hasRule).cls ≠ "java/lang/invoke/VarHandle" ∧ (parseMethodDescriptor (iy i7_hasRule).desc).map (fun d => d.parameters.length) = some 1) := ⟨(gk3 123 rfl rfl), (gk1 3 rfl rfl), nmh_x7.1, nmh_x7.2, pd_12⟩
theorem cb_x7_60 : CB "CallSteps$Program" 60 i7_hasRule 1 := ⟨(gk3 225 rfl rfl), mb7_hasRule⟩
theorem mv7_hasRule : Cond.instanceMethod (iy i7_hasRule) ∈ gT ∧ Cond.selects (iy i7_hasRule).cls (iy i7_hasRule) (iy i7_hasRule) ∈ gT ∧ vwCl[7]?.map (fun q => q.1) = some (iy i7_hasRule).cls := ⟨(gk3 121 rfl rfl), (gk3 122 rfl rfl), rfl⟩
theorem cv_x7_60 : CVw "CallSteps$Program" 60 i7_hasRule 1 7 := ⟨cb_x7_60, mv7_hasRule⟩
theorem fg_x1_68 : FG "CallSteps$Costs" 68 7 6 0 := ⟨rfl, RX7, TX7, 8, rfl, by decide, (gk1 109 rfl rfl), ing7⟩
theorem pd_13 : (parseMethodDescriptor "(II)Z").map (fun d => d.parameters.length) = some 2 := by decide +kernel
theorem mb7_isIn : Cond.code (iy i7_isIn) (ib i7_isIn) (iL i7_isIn) (ir i7_isIn) ∈ gT ∧ Cond.initialized (iy i7_isIn).cls ∈ gT ∧ ((iy i7_isIn).cls ≠ "java/lang/invoke/MethodHandle" ∧ (iy i7_isIn).cls ≠ "java/lang/invoke/VarHandle" ∧ (parseMethodDescriptor (iy i7_isIn).desc).map (fun d => d.parameters.length) = some 2) := ⟨(gk3 224 rfl rfl), (gk1 3 rfl rfl), nmh_x7.1, nmh_x7.2, pd_13⟩
theorem cb_x1_71 : CB "CallSteps$Costs" 71 i7_isIn 2 := ⟨(gk4 74 rfl rfl), mb7_isIn⟩
theorem mv7_isIn : Cond.instanceMethod (iy i7_isIn) ∈ gT ∧ Cond.selects (iy i7_isIn).cls (iy i7_isIn) (iy i7_isIn) ∈ gT ∧ vwCl[7]?.map (fun q => q.1) = some (iy i7_isIn).cls := ⟨(gk3 222 rfl rfl), (gk3 223 rfl rfl), rfl⟩
theorem cv_x1_71 : CVw "CallSteps$Costs" 71 i7_isIn 2 7 := ⟨cb_x1_71, mv7_isIn⟩
theorem pd_14 : (parseMethodDescriptor "(LCallSteps$Program;I)Z").map (fun d => d.parameters.length) = some 2 := by decide +kernel
theorem mb1_lowerBy : Cond.code (iy i1_lowerBy) (ib i1_lowerBy) (iL i1_lowerBy) (ir i1_lowerBy) ∈ gT ∧ Cond.initialized (iy i1_lowerBy).cls ∈ gT ∧ ((iy i1_lowerBy).cls ≠ "java/lang/invoke/MethodHandle" ∧ (iy i1_lowerBy).cls ≠ "java/lang/invoke/VarHandle" ∧ (parseMethodDescriptor (iy i1_lowerBy).desc).map (fun d => d.parameters.length) = some 2) := ⟨(gk4 78 rfl rfl), (gk1 9 rfl rfl), nmh_x1.1, nmh_x1.2, pd_14⟩
theorem cb_x1_75 : CB "CallSteps$Costs" 75 i1_lowerBy 2 := ⟨(gk4 75 rfl rfl), mb1_lowerBy⟩
theorem mv1_lowerBy : Cond.instanceMethod (iy i1_lowerBy) ∈ gT ∧ Cond.selects (iy i1_lowerBy).cls (iy i1_lowerBy) (iy i1_lowerBy) ∈ gT ∧ vwCl[1]?.map (fun q => q.1) = some (iy i1_lowerBy).cls := ⟨(gk4 77 rfl rfl), (gp2 12 rfl), rfl⟩
theorem cv_x1_75 : CVw "CallSteps$Costs" 75 i1_lowerBy 2 1 := ⟨cb_x1_75, mv1_lowerBy⟩
theorem k_s_451 : (Int16.ofInt (451)).toInt32 = (451 : Int32) := by decide +kernel
theorem nmh_jArrays : "java/util/Arrays" ≠ "java/lang/invoke/MethodHandle" ∧ "java/util/Arrays" ≠ "java/lang/invoke/VarHandle" := by decide +kernel
theorem pd_15 : (parseMethodDescriptor "([JJ)V").map (fun d => d.parameters.length) = some 2 := by decide +kernel
theorem mbJ_fillL : Cond.code (iy iJ_fillL) (ib iJ_fillL) (iL iJ_fillL) (ir iJ_fillL) ∈ gT ∧ Cond.initialized (iy iJ_fillL).cls ∈ gT ∧ ((iy iJ_fillL).cls ≠ "java/lang/invoke/MethodHandle" ∧ (iy iJ_fillL).cls ≠ "java/lang/invoke/VarHandle" ∧ (parseMethodDescriptor (iy iJ_fillL).desc).map (fun d => d.parameters.length) = some 2) := ⟨(gk4 50 rfl rfl), (gk1 15 rfl rfl), nmh_jArrays.1, nmh_jArrays.2, pd_15⟩
theorem cb_x4_19 : CB "CallSteps$Longs" 19 iJ_fillL 2 := ⟨(gk4 48 rfl rfl), mbJ_fillL⟩
theorem cs_x4_19 : CSw "CallSteps$Longs" 19 iJ_fillL 2 := ⟨cb_x4_19, (gk4 49 rfl rfl)⟩
theorem pd_16 : (parseMethodDescriptor "(J)V").map (fun d => d.parameters.length) = some 1 := by decide +kernel
theorem mb4_fill : Cond.code (iy i4_fill) (ib i4_fill) (iL i4_fill) (ir i4_fill) ∈ gT ∧ Cond.initialized (iy i4_fill).cls ∈ gT ∧ ((iy i4_fill).cls ≠ "java/lang/invoke/MethodHandle" ∧ (iy i4_fill).cls ≠ "java/lang/invoke/VarHandle" ∧ (parseMethodDescriptor (iy i4_fill).desc).map (fun d => d.parameters.length) = some 1) := ⟨(gk4 47 rfl rfl), (gk1 4 rfl rfl), nmh_x4.1, nmh_x4.2, pd_16⟩
theorem cb_x1_25 : CB "CallSteps$Costs" 25 i4_fill 1 := ⟨(gk4 44 rfl rfl), mb4_fill⟩
theorem mv4_fill : Cond.instanceMethod (iy i4_fill) ∈ gT ∧ Cond.selects (iy i4_fill).cls (iy i4_fill) (iy i4_fill) ∈ gT ∧ vwCl[4]?.map (fun q => q.1) = some (iy i4_fill).cls := ⟨(gk4 45 rfl rfl), (gk4 46 rfl rfl), rfl⟩
theorem cv_x1_25 : CVw "CallSteps$Costs" 25 i4_fill 1 4 := ⟨cb_x1_25, mv4_fill⟩
theorem fg_x1_49 : FG "CallSteps$Costs" 49 7 7 0 := ⟨rfl, RX7, TX7, 8, rfl, by decide, (gk1 112 rfl rfl), ing7⟩
theorem pd_17 : (parseMethodDescriptor "(LCallSteps$Program;I)V").map (fun d => d.parameters.length) = some 2 := by decide +kernel
theorem mb1_aimAtGoal : Cond.code (iy i1_aimAtGoal) (ib i1_aimAtGoal) (iL i1_aimAtGoal) (ir i1_aimAtGoal) ∈ gT ∧ Cond.initialized (iy i1_aimAtGoal).cls ∈ gT ∧ ((iy i1_aimAtGoal).cls ≠ "java/lang/invoke/MethodHandle" ∧ (iy i1_aimAtGoal).cls ≠ "java/lang/invoke/VarHandle" ∧ (parseMethodDescriptor (iy i1_aimAtGoal).desc).map (fun d => d.parameters.length) = some 2) := ⟨(gk4 64 rfl rfl), (gk1 9 rfl rfl), nmh_x1.1, nmh_x1.2, pd_17⟩
theorem cb_x1_52 : CB "CallSteps$Costs" 52 i1_aimAtGoal 2 := ⟨(gk4 61 rfl rfl), mb1_aimAtGoal⟩
theorem mv1_aimAtGoal : Cond.instanceMethod (iy i1_aimAtGoal) ∈ gT ∧ Cond.selects (iy i1_aimAtGoal).cls (iy i1_aimAtGoal) (iy i1_aimAtGoal) ∈ gT ∧ vwCl[1]?.map (fun q => q.1) = some (iy i1_aimAtGoal).cls := ⟨(gk4 63 rfl rfl), (gp2 11 rfl), rfl⟩
theorem cv_x1_52 : CVw "CallSteps$Costs" 52 i1_aimAtGoal 2 1 := ⟨cb_x1_52, mv1_aimAtGoal⟩
theorem mb1_start : Cond.code (iy i1_start) (ib i1_start) (iL i1_start) (ir i1_start) ∈ gT ∧ Cond.initialized (iy i1_start).cls ∈ gT ∧ ((iy i1_start).cls ≠ "java/lang/invoke/MethodHandle" ∧ (iy i1_start).cls ≠ "java/lang/invoke/VarHandle" ∧ (parseMethodDescriptor (iy i1_start).desc).map (fun d => d.parameters.length) = some 1) := ⟨(gk4 42 rfl rfl), (gk1 9 rfl rfl), nmh_x1.1, nmh_x1.2, pd_0⟩
theorem cb_x1_46 : CB "CallSteps$Costs" 46 i1_start 1 := ⟨(gk4 39 rfl rfl), mb1_start⟩
theorem mv1_start : Cond.instanceMethod (iy i1_start) ∈ gT ∧ Cond.selects (iy i1_start).cls (iy i1_start) (iy i1_start) ∈ gT ∧ vwCl[1]?.map (fun q => q.1) = some (iy i1_start).cls := ⟨(gk4 40 rfl rfl), (gk4 41 rfl rfl), rfl⟩
theorem cv_x1_46 : CVw "CallSteps$Costs" 46 i1_start 1 1 := ⟨cb_x1_46, mv1_start⟩
theorem fg_x2_47 : FG "CallSteps$Heads" 47 2 6 2 := ⟨rfl, RX2, TX2, 9, rfl, by decide, (gk2 21 rfl rfl), ing2⟩
theorem cb_x2_60 : CB "CallSteps$Heads" 60 i1_edge 3 := ⟨(gk4 211 rfl rfl), mb1_edge⟩
theorem cv_x2_60 : CVw "CallSteps$Heads" 60 i1_edge 3 1 := ⟨cb_x2_60, mv1_edge⟩
theorem kc_x2_66 : Cond.constantLong "CallSteps$Heads" 66 (1000000000000001 : Int64) ∈ gT := (gk4 212 rfl rfl)
theorem pd_18 : (parseMethodDescriptor "([II)V").map (fun d => d.parameters.length) = some 2 := by decide +kernel
theorem mbJ_fillI : Cond.code (iy iJ_fillI) (ib iJ_fillI) (iL iJ_fillI) (ir iJ_fillI) ∈ gT ∧ Cond.initialized (iy iJ_fillI).cls ∈ gT ∧ ((iy iJ_fillI).cls ≠ "java/lang/invoke/MethodHandle" ∧ (iy iJ_fillI).cls ≠ "java/lang/invoke/VarHandle" ∧ (parseMethodDescriptor (iy iJ_fillI).desc).map (fun d => d.parameters.length) = some 2) := ⟨(gk4 193 rfl rfl), (gk1 15 rfl rfl), nmh_jArrays.1, nmh_jArrays.2, pd_18⟩
theorem cb_x3_15 : CB "CallSteps$Ints" 15 iJ_fillI 2 := ⟨(gk4 191 rfl rfl), mbJ_fillI⟩
theorem cs_x3_15 : CSw "CallSteps$Ints" 15 iJ_fillI 2 := ⟨cb_x3_15, (gk4 192 rfl rfl)⟩
theorem fg_x2_43 : FG "CallSteps$Heads" 43 2 7 2 := ⟨rfl, RX2, TX2, 9, rfl, by decide, (gk2 22 rfl rfl), ing2⟩
theorem cb_x2_51 : CB "CallSteps$Heads" 51 i7_ofRule 2 := ⟨(gk4 203 rfl rfl), mb7_ofRule⟩
theorem cv_x2_51 : CVw "CallSteps$Heads" 51 i7_ofRule 2 7 := ⟨cb_x2_51, mv7_ofRule⟩
theorem nmh_x2 : "CallSteps$Heads" ≠ "java/lang/invoke/MethodHandle" ∧ "CallSteps$Heads" ≠ "java/lang/invoke/VarHandle" := by decide +kernel
theorem mb2_headOf : Cond.code (iy i2_headOf) (ib i2_headOf) (iL i2_headOf) (ir i2_headOf) ∈ gT ∧ Cond.initialized (iy i2_headOf).cls ∈ gT ∧ ((iy i2_headOf).cls ≠ "java/lang/invoke/MethodHandle" ∧ (iy i2_headOf).cls ≠ "java/lang/invoke/VarHandle" ∧ (parseMethodDescriptor (iy i2_headOf).desc).map (fun d => d.parameters.length) = some 2) := ⟨(gk4 206 rfl rfl), (gk1 11 rfl rfl), nmh_x2.1, nmh_x2.2, pd_7⟩
theorem cb_x2_57 : CB "CallSteps$Heads" 57 i2_headOf 2 := ⟨(gk4 204 rfl rfl), mb2_headOf⟩
theorem cs_x2_57 : CSw "CallSteps$Heads" 57 i2_headOf 2 := ⟨cb_x2_57, (gk4 205 rfl rfl)⟩
theorem pd_19 : (parseMethodDescriptor "(III)Z").map (fun d => d.parameters.length) = some 3 := by decide +kernel
theorem mb2_canPop : Cond.code (iy i2_canPop) (ib i2_canPop) (iL i2_canPop) (ir i2_canPop) ∈ gT ∧ Cond.initialized (iy i2_canPop).cls ∈ gT ∧ ((iy i2_canPop).cls ≠ "java/lang/invoke/MethodHandle" ∧ (iy i2_canPop).cls ≠ "java/lang/invoke/VarHandle" ∧ (parseMethodDescriptor (iy i2_canPop).desc).map (fun d => d.parameters.length) = some 3) := ⟨(gk4 210 rfl rfl), (gk1 11 rfl rfl), nmh_x2.1, nmh_x2.2, pd_19⟩
theorem cb_x2_68 : CB "CallSteps$Heads" 68 i2_canPop 3 := ⟨(gk4 207 rfl rfl), mb2_canPop⟩
theorem mv2_canPop : Cond.instanceMethod (iy i2_canPop) ∈ gT ∧ Cond.selects (iy i2_canPop).cls (iy i2_canPop) (iy i2_canPop) ∈ gT ∧ vwCl[2]?.map (fun q => q.1) = some (iy i2_canPop).cls := ⟨(gk4 209 rfl rfl), (gp3 4 rfl), rfl⟩
theorem cv_x2_68 : CVw "CallSteps$Heads" 68 i2_canPop 3 2 := ⟨cb_x2_68, mv2_canPop⟩
theorem fg_x2_90 : FG "CallSteps$Heads" 90 7 4 0 := ⟨rfl, RX7, TX7, 8, rfl, by decide, (gk1 99 rfl rfl), ing7⟩
theorem mb2_headBehind : Cond.code (iy i2_headBehind) (ib i2_headBehind) (iL i2_headBehind) (ir i2_headBehind) ∈ gT ∧ Cond.initialized (iy i2_headBehind).cls ∈ gT ∧ ((iy i2_headBehind).cls ≠ "java/lang/invoke/MethodHandle" ∧ (iy i2_headBehind).cls ≠ "java/lang/invoke/VarHandle" ∧ (parseMethodDescriptor (iy i2_headBehind).desc).map (fun d => d.parameters.length) = some 2) := ⟨(gk4 202 rfl rfl), (gk1 11 rfl rfl), nmh_x2.1, nmh_x2.2, pd_7⟩
theorem cb_x2_93 : CB "CallSteps$Heads" 93 i2_headBehind 2 := ⟨(gk4 199 rfl rfl), mb2_headBehind⟩
theorem mv2_headBehind : Cond.instanceMethod (iy i2_headBehind) ∈ gT ∧ Cond.selects (iy i2_headBehind).cls (iy i2_headBehind) (iy i2_headBehind) ∈ gT ∧ vwCl[2]?.map (fun q => q.1) = some (iy i2_headBehind).cls := ⟨(gk4 201 rfl rfl), (gp3 3 rfl), rfl⟩
theorem cv_x2_93 : CVw "CallSteps$Heads" 93 i2_headBehind 2 2 := ⟨cb_x2_93, mv2_headBehind⟩
theorem fg_x2_20 : FG "CallSteps$Heads" 20 2 1 2 := ⟨rfl, RX2, TX2, 9, rfl, by decide, (gk2 16 rfl rfl), ing2⟩
theorem cb_x2_72 : CB "CallSteps$Heads" 72 i3_get 1 := ⟨(gk4 213 rfl rfl), mb3_get⟩
theorem cv_x2_72 : CVw "CallSteps$Heads" 72 i3_get 1 3 := ⟨cb_x2_72, mv3_get⟩
theorem fg_x2_79 : FG "CallSteps$Heads" 79 7 6 0 := ⟨rfl, RX7, TX7, 8, rfl, by decide, (gk1 108 rfl rfl), ing7⟩
theorem fg_x2_39 : FG "CallSteps$Heads" 39 2 8 0 := ⟨rfl, RX2, TX2, 9, rfl, by decide, (gk2 23 rfl rfl), ing2⟩
theorem cb_x2_82 : CB "CallSteps$Heads" 82 i7_isIn 2 := ⟨(gk4 194 rfl rfl), mb7_isIn⟩
theorem cv_x2_82 : CVw "CallSteps$Heads" 82 i7_isIn 2 7 := ⟨cb_x2_82, mv7_isIn⟩
theorem mb2_headOfRule : Cond.code (iy i2_headOfRule) (ib i2_headOfRule) (iL i2_headOfRule) (ir i2_headOfRule) ∈ gT ∧ Cond.initialized (iy i2_headOfRule).cls ∈ gT ∧ ((iy i2_headOfRule).cls ≠ "java/lang/invoke/MethodHandle" ∧ (iy i2_headOfRule).cls ≠ "java/lang/invoke/VarHandle" ∧ (parseMethodDescriptor (iy i2_headOfRule).desc).map (fun d => d.parameters.length) = some 1) := ⟨(gk4 223 rfl rfl), (gk1 11 rfl rfl), nmh_x2.1, nmh_x2.2, pd_1⟩
theorem cb_x2_104 : CB "CallSteps$Heads" 104 i2_headOfRule 1 := ⟨(gk4 220 rfl rfl), mb2_headOfRule⟩
theorem mv2_headOfRule : Cond.instanceMethod (iy i2_headOfRule) ∈ gT ∧ Cond.selects (iy i2_headOfRule).cls (iy i2_headOfRule) (iy i2_headOfRule) ∈ gT ∧ vwCl[2]?.map (fun q => q.1) = some (iy i2_headOfRule).cls := ⟨(gk4 222 rfl rfl), (gp3 5 rfl), rfl⟩
theorem cv_x2_104 : CVw "CallSteps$Heads" 104 i2_headOfRule 1 2 := ⟨cb_x2_104, mv2_headOfRule⟩
theorem mb2_goesOnToLasting : Cond.code (iy i2_goesOnToLasting) (ib i2_goesOnToLasting) (iL i2_goesOnToLasting) (ir i2_goesOnToLasting) ∈ gT ∧ Cond.initialized (iy i2_goesOnToLasting).cls ∈ gT ∧ ((iy i2_goesOnToLasting).cls ≠ "java/lang/invoke/MethodHandle" ∧ (iy i2_goesOnToLasting).cls ≠ "java/lang/invoke/VarHandle" ∧ (parseMethodDescriptor (iy i2_goesOnToLasting).desc).map (fun d => d.parameters.length) = some 1) := ⟨(gk5 13 rfl rfl), (gk1 11 rfl rfl), nmh_x2.1, nmh_x2.2, pd_12⟩
theorem cb_x2_131 : CB "CallSteps$Heads" 131 i2_goesOnToLasting 1 := ⟨(gk5 10 rfl rfl), mb2_goesOnToLasting⟩
theorem mv2_goesOnToLasting : Cond.instanceMethod (iy i2_goesOnToLasting) ∈ gT ∧ Cond.selects (iy i2_goesOnToLasting).cls (iy i2_goesOnToLasting) (iy i2_goesOnToLasting) ∈ gT ∧ vwCl[2]?.map (fun q => q.1) = some (iy i2_goesOnToLasting).cls := ⟨(gk5 12 rfl rfl), (gp3 8 rfl), rfl⟩
theorem cv_x2_131 : CVw "CallSteps$Heads" 131 i2_goesOnToLasting 1 2 := ⟨cb_x2_131, mv2_goesOnToLasting⟩
theorem k_b_30 : (Int8.ofInt (30)).toInt32 = (30 : Int32) := by decide +kernel
theorem mb2_leadsToLasting : Cond.code (iy i2_leadsToLasting) (ib i2_leadsToLasting) (iL i2_leadsToLasting) (ir i2_leadsToLasting) ∈ gT ∧ Cond.initialized (iy i2_leadsToLasting).cls ∈ gT ∧ ((iy i2_leadsToLasting).cls ≠ "java/lang/invoke/MethodHandle" ∧ (iy i2_leadsToLasting).cls ≠ "java/lang/invoke/VarHandle" ∧ (parseMethodDescriptor (iy i2_leadsToLasting).desc).map (fun d => d.parameters.length) = some 1) := ⟨(gk5 9 rfl rfl), (gk1 11 rfl rfl), nmh_x2.1, nmh_x2.2, pd_12⟩
theorem cb_x2_128 : CB "CallSteps$Heads" 128 i2_leadsToLasting 1 := ⟨(gk5 6 rfl rfl), mb2_leadsToLasting⟩
theorem mv2_leadsToLasting : Cond.instanceMethod (iy i2_leadsToLasting) ∈ gT ∧ Cond.selects (iy i2_leadsToLasting).cls (iy i2_leadsToLasting) (iy i2_leadsToLasting) ∈ gT ∧ vwCl[2]?.map (fun q => q.1) = some (iy i2_leadsToLasting).cls := ⟨(gk5 8 rfl rfl), (gp3 7 rfl), rfl⟩
theorem cv_x2_128 : CVw "CallSteps$Heads" 128 i2_leadsToLasting 1 2 := ⟨cb_x2_128, mv2_leadsToLasting⟩
theorem cb_x2_107 : CB "CallSteps$Heads" 107 i3_set 2 := ⟨(gk4 224 rfl rfl), mb3_set⟩
theorem cv_x2_107 : CVw "CallSteps$Heads" 107 i3_set 2 3 := ⟨cb_x2_107, mv3_set⟩
theorem mb3_fill : Cond.code (iy i3_fill) (ib i3_fill) (iL i3_fill) (ir i3_fill) ∈ gT ∧ Cond.initialized (iy i3_fill).cls ∈ gT ∧ ((iy i3_fill).cls ≠ "java/lang/invoke/MethodHandle" ∧ (iy i3_fill).cls ≠ "java/lang/invoke/VarHandle" ∧ (parseMethodDescriptor (iy i3_fill).desc).map (fun d => d.parameters.length) = some 1) := ⟨(gk4 190 rfl rfl), (gk1 5 rfl rfl), nmh_x3.1, nmh_x3.2, pd_0⟩
theorem cb_x2_76 : CB "CallSteps$Heads" 76 i3_fill 1 := ⟨(gk4 187 rfl rfl), mb3_fill⟩
theorem mv3_fill : Cond.instanceMethod (iy i3_fill) ∈ gT ∧ Cond.selects (iy i3_fill).cls (iy i3_fill) (iy i3_fill) ∈ gT ∧ vwCl[3]?.map (fun q => q.1) = some (iy i3_fill).cls := ⟨(gk4 188 rfl rfl), (gk4 189 rfl rfl), rfl⟩
theorem cv_x2_76 : CVw "CallSteps$Heads" 76 i3_fill 1 3 := ⟨cb_x2_76, mv3_fill⟩
theorem fg_x2_30 : FG "CallSteps$Heads" 30 2 3 2 := ⟨rfl, RX2, TX2, 9, rfl, by decide, (gk2 18 rfl rfl), ing2⟩
theorem cb_x2_153 : CB "CallSteps$Heads" 153 i4_get 1 := ⟨(gk5 44 rfl rfl), mb4_get⟩
theorem cv_x2_153 : CVw "CallSteps$Heads" 153 i4_get 1 4 := ⟨cb_x2_153, mv4_get⟩
theorem mb2_toPop : Cond.code (iy i2_toPop) (ib i2_toPop) (iL i2_toPop) (ir i2_toPop) ∈ gT ∧ Cond.initialized (iy i2_toPop).cls ∈ gT ∧ ((iy i2_toPop).cls ≠ "java/lang/invoke/MethodHandle" ∧ (iy i2_toPop).cls ≠ "java/lang/invoke/VarHandle" ∧ (parseMethodDescriptor (iy i2_toPop).desc).map (fun d => d.parameters.length) = some 3) := ⟨(gk5 43 rfl rfl), (gk1 11 rfl rfl), nmh_x2.1, nmh_x2.2, pd_8⟩
theorem cb_x2_164 : CB "CallSteps$Heads" 164 i2_toPop 3 := ⟨(gk5 40 rfl rfl), mb2_toPop⟩
theorem mv2_toPop : Cond.instanceMethod (iy i2_toPop) ∈ gT ∧ Cond.selects (iy i2_toPop).cls (iy i2_toPop) (iy i2_toPop) ∈ gT ∧ vwCl[2]?.map (fun q => q.1) = some (iy i2_toPop).cls := ⟨(gk5 42 rfl rfl), (gp3 11 rfl), rfl⟩
theorem cv_x2_164 : CVw "CallSteps$Heads" 164 i2_toPop 3 2 := ⟨cb_x2_164, mv2_toPop⟩
theorem mw_x2_156 : Cond.methodLink "CallSteps$Heads" 156 Lib.MathLoose.max_long.x ∈ gT ∧ Cond.static Lib.MathLoose.max_long.x ∈ gT ∧ Cond.initialized "java/lang/Math" ∈ gT ∧ Cond.code Lib.MathLoose.max_long.x Lib.MathLoose.max_long.code 4 (some .long) ∈ gT := ⟨(gk5 45 rfl rfl), (gk5 46 rfl rfl), (gk1 16 rfl rfl), (gk5 47 rfl rfl)⟩
theorem kc_x2_140 : Cond.constantLong "CallSteps$Heads" 140 (-1 : Int64) ∈ gT := (gk5 31 rfl rfl)
theorem k_l_1 : Int64.ofNat ((1 : Fin 2) : Nat) = (1 : Int64) := by decide +kernel
theorem cb_x2_149 : CB "CallSteps$Heads" 149 i4_sum 2 := ⟨(gk5 48 rfl rfl), mb4_sum⟩
theorem cs_x2_149 : CSw "CallSteps$Heads" 149 i4_sum 2 := ⟨cb_x2_149, (gk4 85 rfl rfl)⟩
theorem mb2_joined : Cond.code (iy i2_joined) (ib i2_joined) (iL i2_joined) (ir i2_joined) ∈ gT ∧ Cond.initialized (iy i2_joined).cls ∈ gT ∧ ((iy i2_joined).cls ≠ "java/lang/invoke/MethodHandle" ∧ (iy i2_joined).cls ≠ "java/lang/invoke/VarHandle" ∧ (parseMethodDescriptor (iy i2_joined).desc).map (fun d => d.parameters.length) = some 2) := ⟨(gk5 56 rfl rfl), (gk1 11 rfl rfl), nmh_x2.1, nmh_x2.2, pd_10⟩
theorem cb_x2_167 : CB "CallSteps$Heads" 167 i2_joined 2 := ⟨(gk5 54 rfl rfl), mb2_joined⟩
theorem cs_x2_167 : CSw "CallSteps$Heads" 167 i2_joined 2 := ⟨cb_x2_167, (gk5 55 rfl rfl)⟩
theorem fg_x2_26 : FG "CallSteps$Heads" 26 2 2 2 := ⟨rfl, RX2, TX2, 9, rfl, by decide, (gk2 17 rfl rfl), ing2⟩
theorem mb2_toPopBy : Cond.code (iy i2_toPopBy) (ib i2_toPopBy) (iL i2_toPopBy) (ir i2_toPopBy) ∈ gT ∧ Cond.initialized (iy i2_toPopBy).cls ∈ gT ∧ ((iy i2_toPopBy).cls ≠ "java/lang/invoke/MethodHandle" ∧ (iy i2_toPopBy).cls ≠ "java/lang/invoke/VarHandle" ∧ (parseMethodDescriptor (iy i2_toPopBy).desc).map (fun d => d.parameters.length) = some 2) := ⟨(gk5 53 rfl rfl), (gk1 11 rfl rfl), nmh_x2.1, nmh_x2.2, pd_9⟩
theorem cb_x2_161 : CB "CallSteps$Heads" 161 i2_toPopBy 2 := ⟨(gk5 50 rfl rfl), mb2_toPopBy⟩
theorem mv2_toPopBy : Cond.instanceMethod (iy i2_toPopBy) ∈ gT ∧ Cond.selects (iy i2_toPopBy).cls (iy i2_toPopBy) (iy i2_toPopBy) ∈ gT ∧ vwCl[2]?.map (fun q => q.1) = some (iy i2_toPopBy).cls := ⟨(gk5 52 rfl rfl), (gp3 12 rfl), rfl⟩
theorem cv_x2_161 : CVw "CallSteps$Heads" 161 i2_toPopBy 2 2 := ⟨cb_x2_161, mv2_toPopBy⟩
theorem cb_x2_158 : CB "CallSteps$Heads" 158 i4_set 2 := ⟨(gk5 49 rfl rfl), mb4_set⟩
theorem cv_x2_158 : CVw "CallSteps$Heads" 158 i4_set 2 4 := ⟨cb_x2_158, mv4_set⟩
theorem mb2_toPopFirst : Cond.code (iy i2_toPopFirst) (ib i2_toPopFirst) (iL i2_toPopFirst) (ir i2_toPopFirst) ∈ gT ∧ Cond.initialized (iy i2_toPopFirst).cls ∈ gT ∧ ((iy i2_toPopFirst).cls ≠ "java/lang/invoke/MethodHandle" ∧ (iy i2_toPopFirst).cls ≠ "java/lang/invoke/VarHandle" ∧ (parseMethodDescriptor (iy i2_toPopFirst).desc).map (fun d => d.parameters.length) = some 2) := ⟨(gk5 39 rfl rfl), (gk1 11 rfl rfl), nmh_x2.1, nmh_x2.2, pd_9⟩
theorem cb_x2_145 : CB "CallSteps$Heads" 145 i2_toPopFirst 2 := ⟨(gk5 36 rfl rfl), mb2_toPopFirst⟩
theorem mv2_toPopFirst : Cond.instanceMethod (iy i2_toPopFirst) ∈ gT ∧ Cond.selects (iy i2_toPopFirst).cls (iy i2_toPopFirst) (iy i2_toPopFirst) ∈ gT ∧ vwCl[2]?.map (fun q => q.1) = some (iy i2_toPopFirst).cls := ⟨(gk5 38 rfl rfl), (gp3 10 rfl), rfl⟩
theorem cv_x2_145 : CVw "CallSteps$Heads" 145 i2_toPopFirst 2 2 := ⟨cb_x2_145, mv2_toPopFirst⟩
theorem mb2_lengthensBy : Cond.code (iy i2_lengthensBy) (ib i2_lengthensBy) (iL i2_lengthensBy) (ir i2_lengthensBy) ∈ gT ∧ Cond.initialized (iy i2_lengthensBy).cls ∈ gT ∧ ((iy i2_lengthensBy).cls ≠ "java/lang/invoke/MethodHandle" ∧ (iy i2_lengthensBy).cls ≠ "java/lang/invoke/VarHandle" ∧ (parseMethodDescriptor (iy i2_lengthensBy).desc).map (fun d => d.parameters.length) = some 1) := ⟨(gk5 35 rfl rfl), (gk1 11 rfl rfl), nmh_x2.1, nmh_x2.2, pd_12⟩
theorem cb_x2_142 : CB "CallSteps$Heads" 142 i2_lengthensBy 1 := ⟨(gk5 32 rfl rfl), mb2_lengthensBy⟩
theorem mv2_lengthensBy : Cond.instanceMethod (iy i2_lengthensBy) ∈ gT ∧ Cond.selects (iy i2_lengthensBy).cls (iy i2_lengthensBy) (iy i2_lengthensBy) ∈ gT ∧ vwCl[2]?.map (fun q => q.1) = some (iy i2_lengthensBy).cls := ⟨(gk5 34 rfl rfl), (gp3 9 rfl), rfl⟩
theorem cv_x2_142 : CVw "CallSteps$Heads" 142 i2_lengthensBy 1 2 := ⟨cb_x2_142, mv2_lengthensBy⟩
theorem cb_x2_137 : CB "CallSteps$Heads" 137 i4_fill 1 := ⟨(gk5 30 rfl rfl), mb4_fill⟩
theorem cv_x2_137 : CVw "CallSteps$Heads" 137 i4_fill 1 4 := ⟨cb_x2_137, mv4_fill⟩
theorem fg_x2_16 : FG "CallSteps$Heads" 16 2 0 2 := ⟨rfl, RX2, TX2, 9, rfl, by decide, (gk2 15 rfl rfl), ing2⟩
theorem mw_x2_96 : Cond.methodLink "CallSteps$Heads" 96 Lib.Math.max.name ∈ gT ∧ Cond.static Lib.Math.max.name ∈ gT ∧ Cond.initialized "java/lang/Math" ∈ gT ∧ Cond.code Lib.Math.max.name Lib.Math.max.code 2 (some .int) ∈ gT := ⟨(gk4 214 rfl rfl), (gk4 215 rfl rfl), (gk1 16 rfl rfl), (gk4 216 rfl rfl)⟩
theorem k_b_31 : (Int8.ofInt (31)).toInt32 = (31 : Int32) := by decide +kernel
theorem mw_x2_101 : Cond.methodLink "CallSteps$Heads" 101 Lib.Math.min.name ∈ gT ∧ Cond.static Lib.Math.min.name ∈ gT ∧ Cond.initialized "java/lang/Math" ∈ gT ∧ Cond.code Lib.Math.min.name Lib.Math.min.code 2 (some .int) ∈ gT := ⟨(gk4 217 rfl rfl), (gk4 218 rfl rfl), (gk1 16 rfl rfl), (gk4 219 rfl rfl)⟩
theorem mb2_raisesBy : Cond.code (iy i2_raisesBy) (ib i2_raisesBy) (iL i2_raisesBy) (ir i2_raisesBy) ∈ gT ∧ Cond.initialized (iy i2_raisesBy).cls ∈ gT ∧ ((iy i2_raisesBy).cls ≠ "java/lang/invoke/MethodHandle" ∧ (iy i2_raisesBy).cls ≠ "java/lang/invoke/VarHandle" ∧ (parseMethodDescriptor (iy i2_raisesBy).desc).map (fun d => d.parameters.length) = some 1) := ⟨(gk4 198 rfl rfl), (gk1 11 rfl rfl), nmh_x2.1, nmh_x2.2, pd_12⟩
theorem cb_x2_86 : CB "CallSteps$Heads" 86 i2_raisesBy 1 := ⟨(gk4 195 rfl rfl), mb2_raisesBy⟩
theorem mv2_raisesBy : Cond.instanceMethod (iy i2_raisesBy) ∈ gT ∧ Cond.selects (iy i2_raisesBy).cls (iy i2_raisesBy) (iy i2_raisesBy) ∈ gT ∧ vwCl[2]?.map (fun q => q.1) = some (iy i2_raisesBy).cls := ⟨(gk4 197 rfl rfl), (gp3 2 rfl), rfl⟩
theorem cv_x2_86 : CVw "CallSteps$Heads" 86 i2_raisesBy 1 2 := ⟨cb_x2_86, mv2_raisesBy⟩
theorem k_s_931 : (Int16.ofInt (931)).toInt32 = (931 : Int32) := by decide +kernel
theorem fg_x2_36 : FG "CallSteps$Heads" 36 2 5 2 := ⟨rfl, RX2, TX2, 9, rfl, by decide, (gk2 20 rfl rfl), ing2⟩
theorem mb2_reachedBelow : Cond.code (iy i2_reachedBelow) (ib i2_reachedBelow) (iL i2_reachedBelow) (ir i2_reachedBelow) ∈ gT ∧ Cond.initialized (iy i2_reachedBelow).cls ∈ gT ∧ ((iy i2_reachedBelow).cls ≠ "java/lang/invoke/MethodHandle" ∧ (iy i2_reachedBelow).cls ≠ "java/lang/invoke/VarHandle" ∧ (parseMethodDescriptor (iy i2_reachedBelow).desc).map (fun d => d.parameters.length) = some 2) := ⟨(gk4 237 rfl rfl), (gk1 11 rfl rfl), nmh_x2.1, nmh_x2.2, pd_7⟩
theorem cb_x2_125 : CB "CallSteps$Heads" 125 i2_reachedBelow 2 := ⟨(gk4 234 rfl rfl), mb2_reachedBelow⟩
theorem mv2_reachedBelow : Cond.instanceMethod (iy i2_reachedBelow) ∈ gT ∧ Cond.selects (iy i2_reachedBelow).cls (iy i2_reachedBelow) (iy i2_reachedBelow) ∈ gT ∧ vwCl[2]?.map (fun q => q.1) = some (iy i2_reachedBelow).cls := ⟨(gk4 236 rfl rfl), (gp3 6 rfl), rfl⟩
theorem cv_x2_125 : CVw "CallSteps$Heads" 125 i2_reachedBelow 2 2 := ⟨cb_x2_125, mv2_reachedBelow⟩
theorem mb2_riseOf : Cond.code (iy i2_riseOf) (ib i2_riseOf) (iL i2_riseOf) (ir i2_riseOf) ∈ gT ∧ Cond.initialized (iy i2_riseOf).cls ∈ gT ∧ ((iy i2_riseOf).cls ≠ "java/lang/invoke/MethodHandle" ∧ (iy i2_riseOf).cls ≠ "java/lang/invoke/VarHandle" ∧ (parseMethodDescriptor (iy i2_riseOf).desc).map (fun d => d.parameters.length) = some 2) := ⟨(gk4 233 rfl rfl), (gk1 11 rfl rfl), nmh_x2.1, nmh_x2.2, pd_7⟩
theorem cb_x2_122 : CB "CallSteps$Heads" 122 i2_riseOf 2 := ⟨(gk4 230 rfl rfl), mb2_riseOf⟩
theorem mv2_riseOf : Cond.instanceMethod (iy i2_riseOf) ∈ gT ∧ Cond.selects (iy i2_riseOf).cls (iy i2_riseOf) (iy i2_riseOf) ∈ gT ∧ vwCl[2]?.map (fun q => q.1) = some (iy i2_riseOf).cls := ⟨(gk4 231 rfl rfl), (gk4 232 rfl rfl), rfl⟩
theorem cv_x2_122 : CVw "CallSteps$Heads" 122 i2_riseOf 2 2 := ⟨cb_x2_122, mv2_riseOf⟩
theorem cb_x2_119 : CB "CallSteps$Heads" 119 i6_signAt 1 := ⟨(gk4 229 rfl rfl), mb6_signAt⟩
theorem cv_x2_119 : CVw "CallSteps$Heads" 119 i6_signAt 1 6 := ⟨cb_x2_119, mv6_signAt⟩
theorem fg_x2_111 : FG "CallSteps$Heads" 111 6 3 0 := ⟨rfl, RX6, TX6, 4, rfl, by decide, (gk1 174 rfl rfl), ing6⟩
theorem fg_x2_116 : FG "CallSteps$Heads" 116 6 2 0 := ⟨rfl, RX6, TX6, 4, rfl, by decide, (gk1 166 rfl rfl), ing6⟩
theorem oi_x2_5 : Cond.methodLink "CallSteps$Heads" 5 objectInit ∈ gT ∧ Cond.instanceMethod objectInit ∈ gT ∧ Cond.code objectInit ⟨#[0xb1]⟩ 1 none ∈ gT := ⟨(gk2 10 rfl rfl), (gk1 28 rfl rfl), (gk1 29 rfl rfl)⟩
theorem nc_x2_11 : NC "CallSteps$Heads" 11 3 1 := ⟨RX3, TX3, tyX3, rfl, (gk2 11 rfl rfl), (gk1 82 rfl rfl), (gk1 5 rfl rfl), ing3, tyX3_ok, by decide +kernel⟩
theorem cb_x2_13 : CB "CallSteps$Heads" 13 i3_init 1 := ⟨(gk2 12 rfl rfl), mb3_init⟩
theorem ci_x2_13 : CIw "CallSteps$Heads" 13 i3_init 1 := ⟨cb_x2_13, rfl, (gk1 84 rfl rfl), rfl⟩
theorem fp_x2_16 : FP "CallSteps$Heads" 16 2 0 2 true (.object "CallSteps$Ints") := ⟨rfl, RX2, TX2, 9, tyX2, ⟨rfl, by decide, (gk2 15 rfl rfl), ing2⟩, tyX2_ok, nmX2, rfl, rfl, rfl⟩
theorem fp_x2_20 : FP "CallSteps$Heads" 20 2 1 2 true (.object "CallSteps$Ints") := ⟨rfl, RX2, TX2, 9, tyX2, ⟨rfl, by decide, (gk2 16 rfl rfl), ing2⟩, tyX2_ok, nmX2, rfl, rfl, rfl⟩
theorem nc_x2_23 : NC "CallSteps$Heads" 23 4 1 := ⟨RX4, TX4, tyX4, rfl, (gk2 13 rfl rfl), (gk1 71 rfl rfl), (gk1 4 rfl rfl), ing4, tyX4_ok, by decide +kernel⟩
theorem cb_x2_25 : CB "CallSteps$Heads" 25 i4_init 1 := ⟨(gk2 14 rfl rfl), mb4_init⟩
theorem ci_x2_25 : CIw "CallSteps$Heads" 25 i4_init 1 := ⟨cb_x2_25, rfl, (gk1 73 rfl rfl), rfl⟩
theorem fp_x2_26 : FP "CallSteps$Heads" 26 2 2 2 true (.object "CallSteps$Longs") := ⟨rfl, RX2, TX2, 9, tyX2, ⟨rfl, by decide, (gk2 17 rfl rfl), ing2⟩, tyX2_ok, nmX2, rfl, rfl, rfl⟩
theorem k_s_150 : (Int16.ofInt (150)).toInt32 = (150 : Int32) := by decide +kernel
theorem fp_x2_30 : FP "CallSteps$Heads" 30 2 3 2 true (.object "CallSteps$Longs") := ⟨rfl, RX2, TX2, 9, tyX2, ⟨rfl, by decide, (gk2 18 rfl rfl), ing2⟩, tyX2_ok, nmX2, rfl, rfl, rfl⟩
theorem fg_x2_33 : FG "CallSteps$Heads" 33 2 4 2 := ⟨rfl, RX2, TX2, 9, rfl, by decide, (gk2 19 rfl rfl), ing2⟩
theorem fp_x2_33 : FP "CallSteps$Heads" 33 2 4 2 true (.object "CallSteps$Longs") := ⟨rfl, RX2, TX2, 9, tyX2, ⟨rfl, by decide, (gk2 19 rfl rfl), ing2⟩, tyX2_ok, nmX2, rfl, rfl, rfl⟩
theorem fp_x2_36 : FP "CallSteps$Heads" 36 2 5 2 true (.object "CallSteps$Longs") := ⟨rfl, RX2, TX2, 9, tyX2, ⟨rfl, by decide, (gk2 20 rfl rfl), ing2⟩, tyX2_ok, nmX2, rfl, rfl, rfl⟩
theorem fp_x2_39 : FP "CallSteps$Heads" 39 2 8 0 false .int := ⟨rfl, RX2, TX2, 9, tyX2, ⟨rfl, by decide, (gk2 23 rfl rfl), ing2⟩, tyX2_ok, nmX2, rfl, rfl, rfl⟩
theorem fp_x2_43 : FP "CallSteps$Heads" 43 2 7 2 false (.object "CallSteps$Program") := ⟨rfl, RX2, TX2, 9, tyX2, ⟨rfl, by decide, (gk2 22 rfl rfl), ing2⟩, tyX2_ok, nmX2, rfl, rfl, rfl⟩
theorem fp_x2_47 : FP "CallSteps$Heads" 47 2 6 2 true (.object "CallSteps$Costs") := ⟨rfl, RX2, TX2, 9, tyX2, ⟨rfl, by decide, (gk2 21 rfl rfl), ing2⟩, tyX2_ok, nmX2, rfl, rfl, rfl⟩
theorem mb2_isLasting : Cond.code (iy i2_isLasting) (ib i2_isLasting) (iL i2_isLasting) (ir i2_isLasting) ∈ gT ∧ Cond.initialized (iy i2_isLasting).cls ∈ gT ∧ ((iy i2_isLasting).cls ≠ "java/lang/invoke/MethodHandle" ∧ (iy i2_isLasting).cls ≠ "java/lang/invoke/VarHandle" ∧ (parseMethodDescriptor (iy i2_isLasting).desc).map (fun d => d.parameters.length) = some 2) := ⟨(gk5 21 rfl rfl), (gk1 11 rfl rfl), nmh_x2.1, nmh_x2.2, pd_13⟩
theorem cb_x2_134 : CB "CallSteps$Heads" 134 i2_isLasting 2 := ⟨(gk5 18 rfl rfl), mb2_isLasting⟩
theorem mv2_isLasting : Cond.instanceMethod (iy i2_isLasting) ∈ gT ∧ Cond.selects (iy i2_isLasting).cls (iy i2_isLasting) (iy i2_isLasting) ∈ gT ∧ vwCl[2]?.map (fun q => q.1) = some (iy i2_isLasting).cls := ⟨(gk5 19 rfl rfl), (gk5 20 rfl rfl), rfl⟩
theorem cv_x2_134 : CVw "CallSteps$Heads" 134 i2_isLasting 2 2 := ⟨cb_x2_134, mv2_isLasting⟩
theorem pd_20 : (parseMethodDescriptor "(IIJ)V").map (fun d => d.parameters.length) = some 3 := by decide +kernel
theorem mb2_goBelow : Cond.code (iy i2_goBelow) (ib i2_goBelow) (iL i2_goBelow) (ir i2_goBelow) ∈ gT ∧ Cond.initialized (iy i2_goBelow).cls ∈ gT ∧ ((iy i2_goBelow).cls ≠ "java/lang/invoke/MethodHandle" ∧ (iy i2_goBelow).cls ≠ "java/lang/invoke/VarHandle" ∧ (parseMethodDescriptor (iy i2_goBelow).desc).map (fun d => d.parameters.length) = some 3) := ⟨(gk5 64 rfl rfl), (gk1 11 rfl rfl), nmh_x2.1, nmh_x2.2, pd_20⟩
theorem cb_x2_170 : CB "CallSteps$Heads" 170 i2_goBelow 3 := ⟨(gk5 61 rfl rfl), mb2_goBelow⟩
theorem mv2_goBelow : Cond.instanceMethod (iy i2_goBelow) ∈ gT ∧ Cond.selects (iy i2_goBelow).cls (iy i2_goBelow) (iy i2_goBelow) ∈ gT ∧ vwCl[2]?.map (fun q => q.1) = some (iy i2_goBelow).cls := ⟨(gk5 63 rfl rfl), (gp3 13 rfl), rfl⟩
theorem cv_x2_170 : CVw "CallSteps$Heads" 170 i2_goBelow 3 2 := ⟨cb_x2_170, mv2_goBelow⟩
theorem pd_21 : (parseMethodDescriptor "([II)[I").map (fun d => d.parameters.length) = some 2 := by decide +kernel
theorem mbJ_copyI : Cond.code (iy iJ_copyI) (ib iJ_copyI) (iL iJ_copyI) (ir iJ_copyI) ∈ gT ∧ Cond.initialized (iy iJ_copyI).cls ∈ gT ∧ ((iy iJ_copyI).cls ≠ "java/lang/invoke/MethodHandle" ∧ (iy iJ_copyI).cls ≠ "java/lang/invoke/VarHandle" ∧ (parseMethodDescriptor (iy iJ_copyI).desc).map (fun d => d.parameters.length) = some 2) := ⟨(gk5 113 rfl rfl), (gk1 15 rfl rfl), nmh_jArrays.1, nmh_jArrays.2, pd_21⟩
theorem cb_x3_21 : CB "CallSteps$Ints" 21 iJ_copyI 2 := ⟨(gk5 111 rfl rfl), mbJ_copyI⟩
theorem cs_x3_21 : CSw "CallSteps$Ints" 21 iJ_copyI 2 := ⟨cb_x3_21, (gk5 112 rfl rfl)⟩
theorem pd_22 : (parseMethodDescriptor "([JI)[J").map (fun d => d.parameters.length) = some 2 := by decide +kernel
theorem mbJ_copyL : Cond.code (iy iJ_copyL) (ib iJ_copyL) (iL iJ_copyL) (ir iJ_copyL) ∈ gT ∧ Cond.initialized (iy iJ_copyL).cls ∈ gT ∧ ((iy iJ_copyL).cls ≠ "java/lang/invoke/MethodHandle" ∧ (iy iJ_copyL).cls ≠ "java/lang/invoke/VarHandle" ∧ (parseMethodDescriptor (iy iJ_copyL).desc).map (fun d => d.parameters.length) = some 2) := ⟨(gk5 131 rfl rfl), (gk1 15 rfl rfl), nmh_jArrays.1, nmh_jArrays.2, pd_22⟩
theorem cb_x4_25 : CB "CallSteps$Longs" 25 iJ_copyL 2 := ⟨(gk5 129 rfl rfl), mbJ_copyL⟩
theorem cs_x4_25 : CSw "CallSteps$Longs" 25 iJ_copyL 2 := ⟨cb_x4_25, (gk5 130 rfl rfl)⟩
theorem fg_x5_40 : FG "CallSteps$Machines" 40 5 7 2 := ⟨rfl, RX5, TX5, 18, rfl, by decide, (gk2 60 rfl rfl), ing5⟩
theorem fg_x5_34 : FG "CallSteps$Machines" 34 5 5 2 := ⟨rfl, RX5, TX5, 18, rfl, by decide, (gk2 58 rfl rfl), ing5⟩
theorem cb_x5_95 : CB "CallSteps$Machines" 95 i3_get 1 := ⟨(gk5 102 rfl rfl), mb3_get⟩
theorem cv_x5_95 : CVw "CallSteps$Machines" 95 i3_get 1 3 := ⟨cb_x5_95, mv3_get⟩
theorem fg_x5_75 : FG "CallSteps$Machines" 75 5 17 0 := ⟨rfl, RX5, TX5, 18, rfl, by decide, (gk2 70 rfl rfl), ing5⟩
theorem cb_x5_102 : CB "CallSteps$Machines" 102 i3_set 2 := ⟨(gk5 92 rfl rfl), mb3_set⟩
theorem cv_x5_102 : CVw "CallSteps$Machines" 102 i3_set 2 3 := ⟨cb_x5_102, mv3_set⟩
theorem fg_x5_43 : FG "CallSteps$Machines" 43 5 8 2 := ⟨rfl, RX5, TX5, 18, rfl, by decide, (gk2 61 rfl rfl), ing5⟩
theorem fg_x5_46 : FG "CallSteps$Machines" 46 5 9 2 := ⟨rfl, RX5, TX5, 18, rfl, by decide, (gk2 62 rfl rfl), ing5⟩
theorem fp_x5_75 : FP "CallSteps$Machines" 75 5 17 0 false .int := ⟨rfl, RX5, TX5, 18, tyX5, ⟨rfl, by decide, (gk2 70 rfl rfl), ing5⟩, tyX5_ok, nmX5, rfl, rfl, rfl⟩
theorem fg_x5_31 : FG "CallSteps$Machines" 31 5 4 2 := ⟨rfl, RX5, TX5, 18, rfl, by decide, (gk2 57 rfl rfl), ing5⟩
theorem fg_x5_66 : FG "CallSteps$Machines" 66 5 14 0 := ⟨rfl, RX5, TX5, 18, rfl, by decide, (gk2 67 rfl rfl), ing5⟩
theorem nmh_x5 : "CallSteps$Machines" ≠ "java/lang/invoke/MethodHandle" ∧ "CallSteps$Machines" ≠ "java/lang/invoke/VarHandle" := by decide +kernel
theorem mb5_kindBehind : Cond.code (iy i5_kindBehind) (ib i5_kindBehind) (iL i5_kindBehind) (ir i5_kindBehind) ∈ gT ∧ Cond.initialized (iy i5_kindBehind).cls ∈ gT ∧ ((iy i5_kindBehind).cls ≠ "java/lang/invoke/MethodHandle" ∧ (iy i5_kindBehind).cls ≠ "java/lang/invoke/VarHandle" ∧ (parseMethodDescriptor (iy i5_kindBehind).desc).map (fun d => d.parameters.length) = some 2) := ⟨(gk5 160 rfl rfl), (gk1 12 rfl rfl), nmh_x5.1, nmh_x5.2, pd_7⟩
theorem cb_x5_144 : CB "CallSteps$Machines" 144 i5_kindBehind 2 := ⟨(gk5 157 rfl rfl), mb5_kindBehind⟩
theorem mv5_kindBehind : Cond.instanceMethod (iy i5_kindBehind) ∈ gT ∧ Cond.selects (iy i5_kindBehind).cls (iy i5_kindBehind) (iy i5_kindBehind) ∈ gT ∧ vwCl[5]?.map (fun q => q.1) = some (iy i5_kindBehind).cls := ⟨(gk5 159 rfl rfl), (gp4 6 rfl), rfl⟩
theorem cv_x5_144 : CVw "CallSteps$Machines" 144 i5_kindBehind 2 5 := ⟨cb_x5_144, mv5_kindBehind⟩
theorem kc_x5_122 : Cond.constant "CallSteps$Machines" 122 (-1640531535 : Int32) ∈ gT := (gk5 101 rfl rfl)
theorem k_b_24 : (Int8.ofInt (24)).toInt32 = (24 : Int32) := by decide +kernel
theorem k_s_255 : (Int16.ofInt (255)).toInt32 = (255 : Int32) := by decide +kernel
theorem fg_x5_16 : FG "CallSteps$Machines" 16 5 0 2 := ⟨rfl, RX5, TX5, 18, rfl, by decide, (gk2 53 rfl rfl), ing5⟩
theorem cb_x5_112 : CB "CallSteps$Machines" 112 i1_edge 3 := ⟨(gk5 91 rfl rfl), mb1_edge⟩
theorem cv_x5_112 : CVw "CallSteps$Machines" 112 i1_edge 3 1 := ⟨cb_x5_112, mv1_edge⟩
theorem kc_x5_110 : Cond.constantLong "CallSteps$Machines" 110 (1000000000000001 : Int64) ∈ gT := (gk5 90 rfl rfl)
theorem cb_x5_106 : CB "CallSteps$Machines" 106 i1_left 2 := ⟨(gk5 89 rfl rfl), mb1_left⟩
theorem cv_x5_106 : CVw "CallSteps$Machines" 106 i1_left 2 1 := ⟨cb_x5_106, mv1_left⟩
theorem fg_x5_63 : FG "CallSteps$Machines" 63 5 13 0 := ⟨rfl, RX5, TX5, 18, rfl, by decide, (gk2 66 rfl rfl), ing5⟩
theorem fp_x5_63 : FP "CallSteps$Machines" 63 5 13 0 false .int := ⟨rfl, RX5, TX5, 18, tyX5, ⟨rfl, by decide, (gk2 66 rfl rfl), ing5⟩, tyX5_ok, nmX5, rfl, rfl, rfl⟩
theorem fg_x5_59 : FG "CallSteps$Machines" 59 5 12 0 := ⟨rfl, RX5, TX5, 18, rfl, by decide, (gk2 65 rfl rfl), ing5⟩
theorem fp_x5_59 : FP "CallSteps$Machines" 59 5 12 0 false .int := ⟨rfl, RX5, TX5, 18, tyX5, ⟨rfl, by decide, (gk2 65 rfl rfl), ing5⟩, tyX5_ok, nmX5, rfl, rfl, rfl⟩
theorem fg_x5_25 : FG "CallSteps$Machines" 25 5 2 2 := ⟨rfl, RX5, TX5, 18, rfl, by decide, (gk2 55 rfl rfl), ing5⟩
theorem mb3_widen : Cond.code (iy i3_widen) (ib i3_widen) (iL i3_widen) (ir i3_widen) ∈ gT ∧ Cond.initialized (iy i3_widen).cls ∈ gT ∧ ((iy i3_widen).cls ≠ "java/lang/invoke/MethodHandle" ∧ (iy i3_widen).cls ≠ "java/lang/invoke/VarHandle" ∧ (parseMethodDescriptor (iy i3_widen).desc).map (fun d => d.parameters.length) = some 1) := ⟨(gk5 110 rfl rfl), (gk1 5 rfl rfl), nmh_x3.1, nmh_x3.2, pd_0⟩
theorem cb_x5_123 : CB "CallSteps$Machines" 123 i3_widen 1 := ⟨(gk5 107 rfl rfl), mb3_widen⟩
theorem mv3_widen : Cond.instanceMethod (iy i3_widen) ∈ gT ∧ Cond.selects (iy i3_widen).cls (iy i3_widen) (iy i3_widen) ∈ gT ∧ vwCl[3]?.map (fun q => q.1) = some (iy i3_widen).cls := ⟨(gk5 108 rfl rfl), (gk5 109 rfl rfl), rfl⟩
theorem cv_x5_123 : CVw "CallSteps$Machines" 123 i3_widen 1 3 := ⟨cb_x5_123, mv3_widen⟩
theorem fg_x5_28 : FG "CallSteps$Machines" 28 5 3 2 := ⟨rfl, RX5, TX5, 18, rfl, by decide, (gk2 56 rfl rfl), ing5⟩
theorem fg_x5_37 : FG "CallSteps$Machines" 37 5 6 2 := ⟨rfl, RX5, TX5, 18, rfl, by decide, (gk2 59 rfl rfl), ing5⟩
theorem fg_x5_52 : FG "CallSteps$Machines" 52 5 10 2 := ⟨rfl, RX5, TX5, 18, rfl, by decide, (gk2 63 rfl rfl), ing5⟩
theorem mb4_widen : Cond.code (iy i4_widen) (ib i4_widen) (iL i4_widen) (ir i4_widen) ∈ gT ∧ Cond.initialized (iy i4_widen).cls ∈ gT ∧ ((iy i4_widen).cls ≠ "java/lang/invoke/MethodHandle" ∧ (iy i4_widen).cls ≠ "java/lang/invoke/VarHandle" ∧ (parseMethodDescriptor (iy i4_widen).desc).map (fun d => d.parameters.length) = some 1) := ⟨(gk5 128 rfl rfl), (gk1 4 rfl rfl), nmh_x4.1, nmh_x4.2, pd_0⟩
theorem cb_x5_125 : CB "CallSteps$Machines" 125 i4_widen 1 := ⟨(gk5 125 rfl rfl), mb4_widen⟩
theorem mv4_widen : Cond.instanceMethod (iy i4_widen) ∈ gT ∧ Cond.selects (iy i4_widen).cls (iy i4_widen) (iy i4_widen) ∈ gT ∧ vwCl[4]?.map (fun q => q.1) = some (iy i4_widen).cls := ⟨(gk5 126 rfl rfl), (gk5 127 rfl rfl), rfl⟩
theorem cv_x5_125 : CVw "CallSteps$Machines" 125 i4_widen 1 4 := ⟨cb_x5_125, mv4_widen⟩
theorem fg_x5_56 : FG "CallSteps$Machines" 56 5 11 2 := ⟨rfl, RX5, TX5, 18, rfl, by decide, (gk2 64 rfl rfl), ing5⟩
theorem fg_x5_69 : FG "CallSteps$Machines" 69 5 15 0 := ⟨rfl, RX5, TX5, 18, rfl, by decide, (gk2 68 rfl rfl), ing5⟩
theorem fg_x5_22 : FG "CallSteps$Machines" 22 5 1 2 := ⟨rfl, RX5, TX5, 18, rfl, by decide, (gk2 54 rfl rfl), ing5⟩
theorem fp_x5_69 : FP "CallSteps$Machines" 69 5 15 0 false .int := ⟨rfl, RX5, TX5, 18, tyX5, ⟨rfl, by decide, (gk2 68 rfl rfl), ing5⟩, tyX5_ok, nmX5, rfl, rfl, rfl⟩
theorem k_s_2340 : (Int16.ofInt (2340)).toInt32 = (2340 : Int32) := by decide +kernel
theorem mb5_widen : Cond.code (iy i5_widen) (ib i5_widen) (iL i5_widen) (ir i5_widen) ∈ gT ∧ Cond.initialized (iy i5_widen).cls ∈ gT ∧ ((iy i5_widen).cls ≠ "java/lang/invoke/MethodHandle" ∧ (iy i5_widen).cls ≠ "java/lang/invoke/VarHandle" ∧ (parseMethodDescriptor (iy i5_widen).desc).map (fun d => d.parameters.length) = some 0) := ⟨(gk5 106 rfl rfl), (gk1 12 rfl rfl), nmh_x5.1, nmh_x5.2, pd_3⟩
theorem cb_x5_119 : CB "CallSteps$Machines" 119 i5_widen 0 := ⟨(gk5 103 rfl rfl), mb5_widen⟩
theorem mv5_widen : Cond.instanceMethod (iy i5_widen) ∈ gT ∧ Cond.selects (iy i5_widen).cls (iy i5_widen) (iy i5_widen) ∈ gT ∧ vwCl[5]?.map (fun q => q.1) = some (iy i5_widen).cls := ⟨(gk5 105 rfl rfl), (gp4 1 rfl), rfl⟩
theorem cv_x5_119 : CVw "CallSteps$Machines" 119 i5_widen 0 5 := ⟨cb_x5_119, mv5_widen⟩
theorem mb5_bucketOf : Cond.code (iy i5_bucketOf) (ib i5_bucketOf) (iL i5_bucketOf) (ir i5_bucketOf) ∈ gT ∧ Cond.initialized (iy i5_bucketOf).cls ∈ gT ∧ ((iy i5_bucketOf).cls ≠ "java/lang/invoke/MethodHandle" ∧ (iy i5_bucketOf).cls ≠ "java/lang/invoke/VarHandle" ∧ (parseMethodDescriptor (iy i5_bucketOf).desc).map (fun d => d.parameters.length) = some 1) := ⟨(gk5 100 rfl rfl), (gk1 12 rfl rfl), nmh_x5.1, nmh_x5.2, pd_1⟩
theorem cb_x5_116 : CB "CallSteps$Machines" 116 i5_bucketOf 1 := ⟨(gk5 98 rfl rfl), mb5_bucketOf⟩
theorem cs_x5_116 : CSw "CallSteps$Machines" 116 i5_bucketOf 1 := ⟨cb_x5_116, (gk5 99 rfl rfl)⟩
theorem k_b_32 : (Int8.ofInt (32)).toInt32 = (32 : Int32) := by decide +kernel
theorem mb5_setBehind : Cond.code (iy i5_setBehind) (ib i5_setBehind) (iL i5_setBehind) (ir i5_setBehind) ∈ gT ∧ Cond.initialized (iy i5_setBehind).cls ∈ gT ∧ ((iy i5_setBehind).cls ≠ "java/lang/invoke/MethodHandle" ∧ (iy i5_setBehind).cls ≠ "java/lang/invoke/VarHandle" ∧ (parseMethodDescriptor (iy i5_setBehind).desc).map (fun d => d.parameters.length) = some 2) := ⟨(gk5 140 rfl rfl), (gk1 12 rfl rfl), nmh_x5.1, nmh_x5.2, pd_7⟩
theorem cb_x5_98 : CB "CallSteps$Machines" 98 i5_setBehind 2 := ⟨(gk5 137 rfl rfl), mb5_setBehind⟩
theorem mv5_setBehind : Cond.instanceMethod (iy i5_setBehind) ∈ gT ∧ Cond.selects (iy i5_setBehind).cls (iy i5_setBehind) (iy i5_setBehind) ∈ gT ∧ vwCl[5]?.map (fun q => q.1) = some (iy i5_setBehind).cls := ⟨(gk5 139 rfl rfl), (gp4 2 rfl), rfl⟩
theorem cv_x5_98 : CVw "CallSteps$Machines" 98 i5_setBehind 2 5 := ⟨cb_x5_98, mv5_setBehind⟩
theorem mb5_setNumber : Cond.code (iy i5_setNumber) (ib i5_setNumber) (iL i5_setNumber) (ir i5_setNumber) ∈ gT ∧ Cond.initialized (iy i5_setNumber).cls ∈ gT ∧ ((iy i5_setNumber).cls ≠ "java/lang/invoke/MethodHandle" ∧ (iy i5_setNumber).cls ≠ "java/lang/invoke/VarHandle" ∧ (parseMethodDescriptor (iy i5_setNumber).desc).map (fun d => d.parameters.length) = some 1) := ⟨(gk5 97 rfl rfl), (gk1 12 rfl rfl), nmh_x5.1, nmh_x5.2, pd_1⟩
theorem cb_x5_91 : CB "CallSteps$Machines" 91 i5_setNumber 1 := ⟨(gk5 94 rfl rfl), mb5_setNumber⟩
theorem mv5_setNumber : Cond.instanceMethod (iy i5_setNumber) ∈ gT ∧ Cond.selects (iy i5_setNumber).cls (iy i5_setNumber) (iy i5_setNumber) ∈ gT ∧ vwCl[5]?.map (fun q => q.1) = some (iy i5_setNumber).cls := ⟨(gk5 96 rfl rfl), (gp4 0 rfl), rfl⟩
theorem cv_x5_91 : CVw "CallSteps$Machines" 91 i5_setNumber 1 5 := ⟨cb_x5_91, mv5_setNumber⟩
theorem fg_x5_88 : FG "CallSteps$Machines" 88 7 4 0 := ⟨rfl, RX7, TX7, 8, rfl, by decide, (gk1 96 rfl rfl), ing7⟩
theorem fg_x5_78 : FG "CallSteps$Machines" 78 7 5 0 := ⟨rfl, RX7, TX7, 8, rfl, by decide, (gk1 101 rfl rfl), ing7⟩
theorem fp_x5_66 : FP "CallSteps$Machines" 66 5 14 0 false .int := ⟨rfl, RX5, TX5, 18, tyX5, ⟨rfl, by decide, (gk2 67 rfl rfl), ing5⟩, tyX5_ok, nmX5, rfl, rfl, rfl⟩
theorem fg_x5_72 : FG "CallSteps$Machines" 72 5 16 0 := ⟨rfl, RX5, TX5, 18, rfl, by decide, (gk2 69 rfl rfl), ing5⟩
theorem fp_x5_72 : FP "CallSteps$Machines" 72 5 16 0 false .int := ⟨rfl, RX5, TX5, 18, tyX5, ⟨rfl, by decide, (gk2 69 rfl rfl), ing5⟩, tyX5_ok, nmX5, rfl, rfl, rfl⟩
theorem pd_23 : (parseMethodDescriptor "(LCallSteps$Costs;)V").map (fun d => d.parameters.length) = some 1 := by decide +kernel
theorem mb5_readMoves : Cond.code (iy i5_readMoves) (ib i5_readMoves) (iL i5_readMoves) (ir i5_readMoves) ∈ gT ∧ Cond.initialized (iy i5_readMoves).cls ∈ gT ∧ ((iy i5_readMoves).cls ≠ "java/lang/invoke/MethodHandle" ∧ (iy i5_readMoves).cls ≠ "java/lang/invoke/VarHandle" ∧ (parseMethodDescriptor (iy i5_readMoves).desc).map (fun d => d.parameters.length) = some 1) := ⟨(gk5 88 rfl rfl), (gk1 12 rfl rfl), nmh_x5.1, nmh_x5.2, pd_23⟩
theorem cb_x5_81 : CB "CallSteps$Machines" 81 i5_readMoves 1 := ⟨(gk5 85 rfl rfl), mb5_readMoves⟩
theorem mv5_readMoves : Cond.instanceMethod (iy i5_readMoves) ∈ gT ∧ Cond.selects (iy i5_readMoves).cls (iy i5_readMoves) (iy i5_readMoves) ∈ gT ∧ vwCl[5]?.map (fun q => q.1) = some (iy i5_readMoves).cls := ⟨(gk5 87 rfl rfl), (gp3 15 rfl), rfl⟩
theorem cv_x5_81 : CVw "CallSteps$Machines" 81 i5_readMoves 1 5 := ⟨cb_x5_81, mv5_readMoves⟩
theorem cb_x5_85 : CB "CallSteps$Machines" 85 i3_fill 1 := ⟨(gk5 93 rfl rfl), mb3_fill⟩
theorem cv_x5_85 : CVw "CallSteps$Machines" 85 i3_fill 1 3 := ⟨cb_x5_85, mv3_fill⟩
theorem mb5_nodeBehind : Cond.code (iy i5_nodeBehind) (ib i5_nodeBehind) (iL i5_nodeBehind) (ir i5_nodeBehind) ∈ gT ∧ Cond.initialized (iy i5_nodeBehind).cls ∈ gT ∧ ((iy i5_nodeBehind).cls ≠ "java/lang/invoke/MethodHandle" ∧ (iy i5_nodeBehind).cls ≠ "java/lang/invoke/VarHandle" ∧ (parseMethodDescriptor (iy i5_nodeBehind).desc).map (fun d => d.parameters.length) = some 2) := ⟨(gk5 188 rfl rfl), (gk1 12 rfl rfl), nmh_x5.1, nmh_x5.2, pd_7⟩
theorem cb_x5_162 : CB "CallSteps$Machines" 162 i5_nodeBehind 2 := ⟨(gk5 210 rfl rfl), mb5_nodeBehind⟩
theorem mv5_nodeBehind : Cond.instanceMethod (iy i5_nodeBehind) ∈ gT ∧ Cond.selects (iy i5_nodeBehind).cls (iy i5_nodeBehind) (iy i5_nodeBehind) ∈ gT ∧ vwCl[5]?.map (fun q => q.1) = some (iy i5_nodeBehind).cls := ⟨(gk5 186 rfl rfl), (gk5 187 rfl rfl), rfl⟩
theorem cv_x5_162 : CVw "CallSteps$Machines" 162 i5_nodeBehind 2 5 := ⟨cb_x5_162, mv5_nodeBehind⟩
theorem cb_x5_159 : CB "CallSteps$Machines" 159 i4_get 1 := ⟨(gk5 211 rfl rfl), mb4_get⟩
theorem cv_x5_159 : CVw "CallSteps$Machines" 159 i4_get 1 4 := ⟨cb_x5_159, mv4_get⟩
theorem cb_x5_150 : CB "CallSteps$Machines" 150 i4_set 2 := ⟨(gk5 205 rfl rfl), mb4_set⟩
theorem cv_x5_150 : CVw "CallSteps$Machines" 150 i4_set 2 4 := ⟨cb_x5_150, mv4_set⟩
theorem mb5_isGoodSet : Cond.code (iy i5_isGoodSet) (ib i5_isGoodSet) (iL i5_isGoodSet) (ir i5_isGoodSet) ∈ gT ∧ Cond.initialized (iy i5_isGoodSet).cls ∈ gT ∧ ((iy i5_isGoodSet).cls ≠ "java/lang/invoke/MethodHandle" ∧ (iy i5_isGoodSet).cls ≠ "java/lang/invoke/VarHandle" ∧ (parseMethodDescriptor (iy i5_isGoodSet).desc).map (fun d => d.parameters.length) = some 1) := ⟨(gk5 148 rfl rfl), (gk1 12 rfl rfl), nmh_x5.1, nmh_x5.2, pd_12⟩
theorem cb_x5_126 : CB "CallSteps$Machines" 126 i5_isGoodSet 1 := ⟨(gk5 145 rfl rfl), mb5_isGoodSet⟩
theorem mv5_isGoodSet : Cond.instanceMethod (iy i5_isGoodSet) ∈ gT ∧ Cond.selects (iy i5_isGoodSet).cls (iy i5_isGoodSet) (iy i5_isGoodSet) ∈ gT ∧ vwCl[5]?.map (fun q => q.1) = some (iy i5_isGoodSet).cls := ⟨(gk5 147 rfl rfl), (gp4 3 rfl), rfl⟩
theorem cv_x5_126 : CVw "CallSteps$Machines" 126 i5_isGoodSet 1 5 := ⟨cb_x5_126, mv5_isGoodSet⟩
theorem mb5_isGoodNode : Cond.code (iy i5_isGoodNode) (ib i5_isGoodNode) (iL i5_isGoodNode) (ir i5_isGoodNode) ∈ gT ∧ Cond.initialized (iy i5_isGoodNode).cls ∈ gT ∧ ((iy i5_isGoodNode).cls ≠ "java/lang/invoke/MethodHandle" ∧ (iy i5_isGoodNode).cls ≠ "java/lang/invoke/VarHandle" ∧ (parseMethodDescriptor (iy i5_isGoodNode).desc).map (fun d => d.parameters.length) = some 1) := ⟨(gk5 196 rfl rfl), (gk1 12 rfl rfl), nmh_x5.1, nmh_x5.2, pd_12⟩
theorem cb_x5_156 : CB "CallSteps$Machines" 156 i5_isGoodNode 1 := ⟨(gk5 212 rfl rfl), mb5_isGoodNode⟩
theorem mv5_isGoodNode : Cond.instanceMethod (iy i5_isGoodNode) ∈ gT ∧ Cond.selects (iy i5_isGoodNode).cls (iy i5_isGoodNode) (iy i5_isGoodNode) ∈ gT ∧ vwCl[5]?.map (fun q => q.1) = some (iy i5_isGoodNode).cls := ⟨(gk5 194 rfl rfl), (gk5 195 rfl rfl), rfl⟩
theorem cv_x5_156 : CVw "CallSteps$Machines" 156 i5_isGoodNode 1 5 := ⟨cb_x5_156, mv5_isGoodNode⟩
theorem mb5_lengthenWords : Cond.code (iy i5_lengthenWords) (ib i5_lengthenWords) (iL i5_lengthenWords) (ir i5_lengthenWords) ∈ gT ∧ Cond.initialized (iy i5_lengthenWords).cls ∈ gT ∧ ((iy i5_lengthenWords).cls ≠ "java/lang/invoke/MethodHandle" ∧ (iy i5_lengthenWords).cls ≠ "java/lang/invoke/VarHandle" ∧ (parseMethodDescriptor (iy i5_lengthenWords).desc).map (fun d => d.parameters.length) = some 0) := ⟨(gk5 209 rfl rfl), (gk1 12 rfl rfl), nmh_x5.1, nmh_x5.2, pd_3⟩
theorem cb_x5_153 : CB "CallSteps$Machines" 153 i5_lengthenWords 0 := ⟨(gk5 206 rfl rfl), mb5_lengthenWords⟩
theorem mv5_lengthenWords : Cond.instanceMethod (iy i5_lengthenWords) ∈ gT ∧ Cond.selects (iy i5_lengthenWords).cls (iy i5_lengthenWords) (iy i5_lengthenWords) ∈ gT ∧ vwCl[5]?.map (fun q => q.1) = some (iy i5_lengthenWords).cls := ⟨(gk5 208 rfl rfl), (gp4 10 rfl), rfl⟩
theorem cv_x5_153 : CVw "CallSteps$Machines" 153 i5_lengthenWords 0 5 := ⟨cb_x5_153, mv5_lengthenWords⟩
theorem mb5_parentOf : Cond.code (iy i5_parentOf) (ib i5_parentOf) (iL i5_parentOf) (ir i5_parentOf) ∈ gT ∧ Cond.initialized (iy i5_parentOf).cls ∈ gT ∧ ((iy i5_parentOf).cls ≠ "java/lang/invoke/MethodHandle" ∧ (iy i5_parentOf).cls ≠ "java/lang/invoke/VarHandle" ∧ (parseMethodDescriptor (iy i5_parentOf).desc).map (fun d => d.parameters.length) = some 1) := ⟨(gk5 228 rfl rfl), (gk1 12 rfl rfl), nmh_x5.1, nmh_x5.2, pd_1⟩
theorem cb_x5_165 : CB "CallSteps$Machines" 165 i5_parentOf 1 := ⟨(gk5 225 rfl rfl), mb5_parentOf⟩
theorem mv5_parentOf : Cond.instanceMethod (iy i5_parentOf) ∈ gT ∧ Cond.selects (iy i5_parentOf).cls (iy i5_parentOf) (iy i5_parentOf) ∈ gT ∧ vwCl[5]?.map (fun q => q.1) = some (iy i5_parentOf).cls := ⟨(gk5 227 rfl rfl), (gp4 11 rfl), rfl⟩
theorem cv_x5_165 : CVw "CallSteps$Machines" 165 i5_parentOf 1 5 := ⟨cb_x5_165, mv5_parentOf⟩
theorem mb5_areAlike : Cond.code (iy i5_areAlike) (ib i5_areAlike) (iL i5_areAlike) (ir i5_areAlike) ∈ gT ∧ Cond.initialized (iy i5_areAlike).cls ∈ gT ∧ ((iy i5_areAlike).cls ≠ "java/lang/invoke/MethodHandle" ∧ (iy i5_areAlike).cls ≠ "java/lang/invoke/VarHandle" ∧ (parseMethodDescriptor (iy i5_areAlike).desc).map (fun d => d.parameters.length) = some 2) := ⟨(gk5 168 rfl rfl), (gk1 12 rfl rfl), nmh_x5.1, nmh_x5.2, pd_13⟩
theorem cb_x5_140 : CB "CallSteps$Machines" 140 i5_areAlike 2 := ⟨(gk5 165 rfl rfl), mb5_areAlike⟩
theorem mv5_areAlike : Cond.instanceMethod (iy i5_areAlike) ∈ gT ∧ Cond.selects (iy i5_areAlike).cls (iy i5_areAlike) (iy i5_areAlike) ∈ gT ∧ vwCl[5]?.map (fun q => q.1) = some (iy i5_areAlike).cls := ⟨(gk5 167 rfl rfl), (gp4 8 rfl), rfl⟩
theorem cv_x5_140 : CVw "CallSteps$Machines" 140 i5_areAlike 2 5 := ⟨cb_x5_140, mv5_areAlike⟩
theorem oi_x5_3 : Cond.methodLink "CallSteps$Machines" 3 objectInit ∈ gT ∧ Cond.instanceMethod objectInit ∈ gT ∧ Cond.code objectInit ⟨#[0xb1]⟩ 1 none ∈ gT := ⟨(gk2 48 rfl rfl), (gk1 28 rfl rfl), (gk1 29 rfl rfl)⟩
theorem nc_x5_9 : NC "CallSteps$Machines" 9 3 1 := ⟨RX3, TX3, tyX3, rfl, (gk2 49 rfl rfl), (gk1 82 rfl rfl), (gk1 5 rfl rfl), ing3, tyX3_ok, by decide +kernel⟩
theorem k_b_90 : (Int8.ofInt (90)).toInt32 = (90 : Int32) := by decide +kernel
theorem cb_x5_13 : CB "CallSteps$Machines" 13 i3_init 1 := ⟨(gk2 50 rfl rfl), mb3_init⟩
theorem ci_x5_13 : CIw "CallSteps$Machines" 13 i3_init 1 := ⟨cb_x5_13, rfl, (gk1 84 rfl rfl), rfl⟩
theorem fp_x5_16 : FP "CallSteps$Machines" 16 5 0 2 true (.object "CallSteps$Ints") := ⟨rfl, RX5, TX5, 18, tyX5, ⟨rfl, by decide, (gk2 53 rfl rfl), ing5⟩, tyX5_ok, nmX5, rfl, rfl, rfl⟩
theorem k_s_256 : (Int16.ofInt (256)).toInt32 = (256 : Int32) := by decide +kernel
theorem fp_x5_22 : FP "CallSteps$Machines" 22 5 1 2 true (.object "CallSteps$Ints") := ⟨rfl, RX5, TX5, 18, tyX5, ⟨rfl, by decide, (gk2 54 rfl rfl), ing5⟩, tyX5_ok, nmX5, rfl, rfl, rfl⟩
theorem k_b_64 : (Int8.ofInt (64)).toInt32 = (64 : Int32) := by decide +kernel
theorem fp_x5_25 : FP "CallSteps$Machines" 25 5 2 2 true (.object "CallSteps$Ints") := ⟨rfl, RX5, TX5, 18, tyX5, ⟨rfl, by decide, (gk2 55 rfl rfl), ing5⟩, tyX5_ok, nmX5, rfl, rfl, rfl⟩
theorem fp_x5_28 : FP "CallSteps$Machines" 28 5 3 2 true (.object "CallSteps$Ints") := ⟨rfl, RX5, TX5, 18, tyX5, ⟨rfl, by decide, (gk2 56 rfl rfl), ing5⟩, tyX5_ok, nmX5, rfl, rfl, rfl⟩
theorem k_s_384 : (Int16.ofInt (384)).toInt32 = (384 : Int32) := by decide +kernel
theorem fp_x5_31 : FP "CallSteps$Machines" 31 5 4 2 true (.object "CallSteps$Ints") := ⟨rfl, RX5, TX5, 18, tyX5, ⟨rfl, by decide, (gk2 57 rfl rfl), ing5⟩, tyX5_ok, nmX5, rfl, rfl, rfl⟩
theorem fp_x5_34 : FP "CallSteps$Machines" 34 5 5 2 false (.object "CallSteps$Ints") := ⟨rfl, RX5, TX5, 18, tyX5, ⟨rfl, by decide, (gk2 58 rfl rfl), ing5⟩, tyX5_ok, nmX5, rfl, rfl, rfl⟩
theorem fp_x5_37 : FP "CallSteps$Machines" 37 5 6 2 false (.object "CallSteps$Ints") := ⟨rfl, RX5, TX5, 18, tyX5, ⟨rfl, by decide, (gk2 59 rfl rfl), ing5⟩, tyX5_ok, nmX5, rfl, rfl, rfl⟩
theorem fp_x5_40 : FP "CallSteps$Machines" 40 5 7 2 true (.object "CallSteps$Ints") := ⟨rfl, RX5, TX5, 18, tyX5, ⟨rfl, by decide, (gk2 60 rfl rfl), ing5⟩, tyX5_ok, nmX5, rfl, rfl, rfl⟩
theorem fp_x5_43 : FP "CallSteps$Machines" 43 5 8 2 true (.object "CallSteps$Ints") := ⟨rfl, RX5, TX5, 18, tyX5, ⟨rfl, by decide, (gk2 61 rfl rfl), ing5⟩, tyX5_ok, nmX5, rfl, rfl, rfl⟩
theorem fp_x5_46 : FP "CallSteps$Machines" 46 5 9 2 true (.object "CallSteps$Ints") := ⟨rfl, RX5, TX5, 18, tyX5, ⟨rfl, by decide, (gk2 62 rfl rfl), ing5⟩, tyX5_ok, nmX5, rfl, rfl, rfl⟩
theorem nc_x5_49 : NC "CallSteps$Machines" 49 4 1 := ⟨RX4, TX4, tyX4, rfl, (gk2 51 rfl rfl), (gk1 71 rfl rfl), (gk1 4 rfl rfl), ing4, tyX4_ok, by decide +kernel⟩
theorem cb_x5_51 : CB "CallSteps$Machines" 51 i4_init 1 := ⟨(gk2 52 rfl rfl), mb4_init⟩
theorem ci_x5_51 : CIw "CallSteps$Machines" 51 i4_init 1 := ⟨cb_x5_51, rfl, (gk1 73 rfl rfl), rfl⟩
theorem fp_x5_52 : FP "CallSteps$Machines" 52 5 10 2 true (.object "CallSteps$Longs") := ⟨rfl, RX5, TX5, 18, tyX5, ⟨rfl, by decide, (gk2 63 rfl rfl), ing5⟩, tyX5_ok, nmX5, rfl, rfl, rfl⟩
theorem fp_x5_56 : FP "CallSteps$Machines" 56 5 11 2 true (.object "CallSteps$Longs") := ⟨rfl, RX5, TX5, 18, tyX5, ⟨rfl, by decide, (gk2 64 rfl rfl), ing5⟩, tyX5_ok, nmX5, rfl, rfl, rfl⟩
theorem mb5_addNode : Cond.code (iy i5_addNode) (ib i5_addNode) (iL i5_addNode) (ir i5_addNode) ∈ gT ∧ Cond.initialized (iy i5_addNode).cls ∈ gT ∧ ((iy i5_addNode).cls ≠ "java/lang/invoke/MethodHandle" ∧ (iy i5_addNode).cls ≠ "java/lang/invoke/VarHandle" ∧ (parseMethodDescriptor (iy i5_addNode).desc).map (fun d => d.parameters.length) = some 2) := ⟨(gk5 176 rfl rfl), (gk1 12 rfl rfl), nmh_x5.1, nmh_x5.2, pd_2⟩
theorem cb_x5_147 : CB "CallSteps$Machines" 147 i5_addNode 2 := ⟨(gk5 173 rfl rfl), mb5_addNode⟩
theorem mv5_addNode : Cond.instanceMethod (iy i5_addNode) ∈ gT ∧ Cond.selects (iy i5_addNode).cls (iy i5_addNode) (iy i5_addNode) ∈ gT ∧ vwCl[5]?.map (fun q => q.1) = some (iy i5_addNode).cls := ⟨(gk5 175 rfl rfl), (gp4 9 rfl), rfl⟩
theorem cv_x5_147 : CVw "CallSteps$Machines" 147 i5_addNode 2 5 := ⟨cb_x5_147, mv5_addNode⟩
theorem mb5_mixOf : Cond.code (iy i5_mixOf) (ib i5_mixOf) (iL i5_mixOf) (ir i5_mixOf) ∈ gT ∧ Cond.initialized (iy i5_mixOf).cls ∈ gT ∧ ((iy i5_mixOf).cls ≠ "java/lang/invoke/MethodHandle" ∧ (iy i5_mixOf).cls ≠ "java/lang/invoke/VarHandle" ∧ (parseMethodDescriptor (iy i5_mixOf).desc).map (fun d => d.parameters.length) = some 1) := ⟨(gk5 156 rfl rfl), (gk1 12 rfl rfl), nmh_x5.1, nmh_x5.2, pd_1⟩
theorem cb_x5_134 : CB "CallSteps$Machines" 134 i5_mixOf 1 := ⟨(gk5 153 rfl rfl), mb5_mixOf⟩
theorem mv5_mixOf : Cond.instanceMethod (iy i5_mixOf) ∈ gT ∧ Cond.selects (iy i5_mixOf).cls (iy i5_mixOf) (iy i5_mixOf) ∈ gT ∧ vwCl[5]?.map (fun q => q.1) = some (iy i5_mixOf).cls := ⟨(gk5 155 rfl rfl), (gp4 5 rfl), rfl⟩
theorem cv_x5_134 : CVw "CallSteps$Machines" 134 i5_mixOf 1 5 := ⟨cb_x5_134, mv5_mixOf⟩
theorem mb5_findAlike : Cond.code (iy i5_findAlike) (ib i5_findAlike) (iL i5_findAlike) (ir i5_findAlike) ∈ gT ∧ Cond.initialized (iy i5_findAlike).cls ∈ gT ∧ ((iy i5_findAlike).cls ≠ "java/lang/invoke/MethodHandle" ∧ (iy i5_findAlike).cls ≠ "java/lang/invoke/VarHandle" ∧ (parseMethodDescriptor (iy i5_findAlike).desc).map (fun d => d.parameters.length) = some 2) := ⟨(gk5 164 rfl rfl), (gk1 12 rfl rfl), nmh_x5.1, nmh_x5.2, pd_7⟩
theorem cb_x5_137 : CB "CallSteps$Machines" 137 i5_findAlike 2 := ⟨(gk5 161 rfl rfl), mb5_findAlike⟩
theorem mv5_findAlike : Cond.instanceMethod (iy i5_findAlike) ∈ gT ∧ Cond.selects (iy i5_findAlike).cls (iy i5_findAlike) (iy i5_findAlike) ∈ gT ∧ vwCl[5]?.map (fun q => q.1) = some (iy i5_findAlike).cls := ⟨(gk5 163 rfl rfl), (gp4 7 rfl), rfl⟩
theorem cv_x5_137 : CVw "CallSteps$Machines" 137 i5_findAlike 2 5 := ⟨cb_x5_137, mv5_findAlike⟩
theorem pd_24 : (parseMethodDescriptor "()I").map (fun d => d.parameters.length) = some 0 := by decide +kernel
theorem mb5_partKinds : Cond.code (iy i5_partKinds) (ib i5_partKinds) (iL i5_partKinds) (ir i5_partKinds) ∈ gT ∧ Cond.initialized (iy i5_partKinds).cls ∈ gT ∧ ((iy i5_partKinds).cls ≠ "java/lang/invoke/MethodHandle" ∧ (iy i5_partKinds).cls ≠ "java/lang/invoke/VarHandle" ∧ (parseMethodDescriptor (iy i5_partKinds).desc).map (fun d => d.parameters.length) = some 0) := ⟨(gk5 152 rfl rfl), (gk1 12 rfl rfl), nmh_x5.1, nmh_x5.2, pd_24⟩
theorem cb_x5_130 : CB "CallSteps$Machines" 130 i5_partKinds 0 := ⟨(gk5 149 rfl rfl), mb5_partKinds⟩
theorem mv5_partKinds : Cond.instanceMethod (iy i5_partKinds) ∈ gT ∧ Cond.selects (iy i5_partKinds).cls (iy i5_partKinds) (iy i5_partKinds) ∈ gT ∧ vwCl[5]?.map (fun q => q.1) = some (iy i5_partKinds).cls := ⟨(gk5 151 rfl rfl), (gp4 4 rfl), rfl⟩
theorem cv_x5_130 : CVw "CallSteps$Machines" 130 i5_partKinds 0 5 := ⟨cb_x5_130, mv5_partKinds⟩
theorem cb_x6_33 : CB "CallSteps$Place" 33 i6_signAt 1 := ⟨(gk3 181 rfl rfl), mb6_signAt⟩
theorem cv_x6_33 : CVw "CallSteps$Place" 33 i6_signAt 1 6 := ⟨cb_x6_33, mv6_signAt⟩
theorem cb_x6_37 : CB "CallSteps$Place" 37 i6_push 1 := ⟨(gk3 182 rfl rfl), mb6_push⟩
theorem cv_x6_37 : CVw "CallSteps$Place" 37 i6_push 1 6 := ⟨cb_x6_37, mv6_push⟩
theorem cb_x6_30 : CB "CallSteps$Place" 30 i6_forget 0 := ⟨(gk3 180 rfl rfl), mb6_forget⟩
theorem cv_x6_30 : CVw "CallSteps$Place" 30 i6_forget 0 6 := ⟨cb_x6_30, mv6_forget⟩
theorem oi_x6_3 : Cond.methodLink "CallSteps$Place" 3 objectInit ∈ gT ∧ Cond.instanceMethod objectInit ∈ gT ∧ Cond.code objectInit ⟨#[0xb1]⟩ 1 none ∈ gT := ⟨(gk1 158 rfl rfl), (gk1 28 rfl rfl), (gk1 29 rfl rfl)⟩
theorem fp_x6_18 : FP "CallSteps$Place" 18 6 0 0 true .int := ⟨rfl, RX6, TX6, 4, tyX6, ⟨rfl, by decide, (gk1 161 rfl rfl), ing6⟩, tyX6_ok, nmX6, rfl, rfl, rfl⟩
theorem nc_x6_21 : NC "CallSteps$Place" 21 3 1 := ⟨RX3, TX3, tyX3, rfl, (gk1 159 rfl rfl), (gk1 82 rfl rfl), (gk1 5 rfl rfl), ing3, tyX3_ok, by decide +kernel⟩
theorem cb_x6_23 : CB "CallSteps$Place" 23 i3_init 1 := ⟨(gk1 160 rfl rfl), mb3_init⟩
theorem ci_x6_23 : CIw "CallSteps$Place" 23 i3_init 1 := ⟨cb_x6_23, rfl, (gk1 84 rfl rfl), rfl⟩
theorem fp_x6_26 : FP "CallSteps$Place" 26 6 1 2 true (.object "CallSteps$Ints") := ⟨rfl, RX6, TX6, 4, tyX6, ⟨rfl, by decide, (gk1 162 rfl rfl), ing6⟩, tyX6_ok, nmX6, rfl, rfl, rfl⟩
theorem cb_x6_47 : CB "CallSteps$Place" 47 i7_ofRule 2 := ⟨(gk3 235 rfl rfl), mb7_ofRule⟩
theorem cv_x6_47 : CVw "CallSteps$Place" 47 i7_ofRule 2 7 := ⟨cb_x6_47, mv7_ofRule⟩
theorem fg_x7_20 : FG "CallSteps$Program" 20 7 1 2 := ⟨rfl, RX7, TX7, 8, rfl, by decide, (gk1 92 rfl rfl), ing7⟩
theorem fg_x7_37 : FG "CallSteps$Program" 37 7 5 0 := ⟨rfl, RX7, TX7, 8, rfl, by decide, (gk1 100 rfl rfl), ing7⟩
theorem cb_x7_46 : CB "CallSteps$Program" 46 i4_set 2 := ⟨(gk3 26 rfl rfl), mb4_set⟩
theorem cv_x7_46 : CVw "CallSteps$Program" 46 i4_set 2 4 := ⟨cb_x7_46, mv4_set⟩
theorem fp_x7_37 : FP "CallSteps$Program" 37 7 5 0 false .int := ⟨rfl, RX7, TX7, 8, tyX7, ⟨rfl, by decide, (gk1 100 rfl rfl), ing7⟩, tyX7_ok, nmX7, rfl, rfl, rfl⟩
theorem fg_x7_14 : FG "CallSteps$Program" 14 7 0 2 := ⟨rfl, RX7, TX7, 8, rfl, by decide, (gk1 91 rfl rfl), ing7⟩
theorem fg_x7_33 : FG "CallSteps$Program" 33 7 4 0 := ⟨rfl, RX7, TX7, 8, rfl, by decide, (gk1 95 rfl rfl), ing7⟩
theorem fp_x7_33 : FP "CallSteps$Program" 33 7 4 0 false .int := ⟨rfl, RX7, TX7, 8, tyX7, ⟨rfl, by decide, (gk1 95 rfl rfl), ing7⟩, tyX7_ok, nmX7, rfl, rfl, rfl⟩
theorem cb_x7_64 : CB "CallSteps$Program" 64 i7_isIn 2 := ⟨(gk3 221 rfl rfl), mb7_isIn⟩
theorem cv_x7_64 : CVw "CallSteps$Program" 64 i7_isIn 2 7 := ⟨cb_x7_64, mv7_isIn⟩
theorem cb_x7_68 : CB "CallSteps$Program" 68 i7_ofRule 2 := ⟨(gk3 226 rfl rfl), mb7_ofRule⟩
theorem cv_x7_68 : CVw "CallSteps$Program" 68 i7_ofRule 2 7 := ⟨cb_x7_68, mv7_ofRule⟩
theorem fg_x7_76 : FG "CallSteps$Program" 76 6 3 0 := ⟨rfl, RX6, TX6, 4, rfl, by decide, (gk1 176 rfl rfl), ing6⟩
theorem fg_x7_81 : FG "CallSteps$Program" 81 6 2 0 := ⟨rfl, RX6, TX6, 4, rfl, by decide, (gk1 169 rfl rfl), ing6⟩
theorem mb6_fromTop : Cond.code (iy i6_fromTop) (ib i6_fromTop) (iL i6_fromTop) (ir i6_fromTop) ∈ gT ∧ Cond.initialized (iy i6_fromTop).cls ∈ gT ∧ ((iy i6_fromTop).cls ≠ "java/lang/invoke/MethodHandle" ∧ (iy i6_fromTop).cls ≠ "java/lang/invoke/VarHandle" ∧ (parseMethodDescriptor (iy i6_fromTop).desc).map (fun d => d.parameters.length) = some 1) := ⟨(gk3 203 rfl rfl), (gk1 7 rfl rfl), nmh_x6.1, nmh_x6.2, pd_1⟩
theorem cb_x7_84 : CB "CallSteps$Program" 84 i6_fromTop 1 := ⟨(gk3 200 rfl rfl), mb6_fromTop⟩
theorem mv6_fromTop : Cond.instanceMethod (iy i6_fromTop) ∈ gT ∧ Cond.selects (iy i6_fromTop).cls (iy i6_fromTop) (iy i6_fromTop) ∈ gT ∧ vwCl[6]?.map (fun q => q.1) = some (iy i6_fromTop).cls := ⟨(gk3 201 rfl rfl), (gk3 202 rfl rfl), rfl⟩
theorem cv_x7_84 : CVw "CallSteps$Program" 84 i6_fromTop 1 6 := ⟨cb_x7_84, mv6_fromTop⟩
theorem pd_25 : (parseMethodDescriptor "(IIII)Z").map (fun d => d.parameters.length) = some 4 := by decide +kernel
theorem mb7_isFor : Cond.code (iy i7_isFor) (ib i7_isFor) (iL i7_isFor) (ir i7_isFor) ∈ gT ∧ Cond.initialized (iy i7_isFor).cls ∈ gT ∧ ((iy i7_isFor).cls ≠ "java/lang/invoke/MethodHandle" ∧ (iy i7_isFor).cls ≠ "java/lang/invoke/VarHandle" ∧ (parseMethodDescriptor (iy i7_isFor).desc).map (fun d => d.parameters.length) = some 4) := ⟨(gk3 220 rfl rfl), (gk1 3 rfl rfl), nmh_x7.1, nmh_x7.2, pd_25⟩
theorem cb_x7_72 : CB "CallSteps$Program" 72 i7_isFor 4 := ⟨(gk3 217 rfl rfl), mb7_isFor⟩
theorem mv7_isFor : Cond.instanceMethod (iy i7_isFor) ∈ gT ∧ Cond.selects (iy i7_isFor).cls (iy i7_isFor) (iy i7_isFor) ∈ gT ∧ vwCl[7]?.map (fun q => q.1) = some (iy i7_isFor).cls := ⟨(gk3 218 rfl rfl), (gk3 219 rfl rfl), rfl⟩
theorem cv_x7_72 : CVw "CallSteps$Program" 72 i7_isFor 4 7 := ⟨cb_x7_72, mv7_isFor⟩
theorem fp_x7_40 : FP "CallSteps$Program" 40 7 6 0 false .int := ⟨rfl, RX7, TX7, 8, tyX7, ⟨rfl, by decide, (gk1 105 rfl rfl), ing7⟩, tyX7_ok, nmX7, rfl, rfl, rfl⟩
theorem fg_x7_43 : FG "CallSteps$Program" 43 7 7 0 := ⟨rfl, RX7, TX7, 8, rfl, by decide, (gk1 111 rfl rfl), ing7⟩
theorem fp_x7_43 : FP "CallSteps$Program" 43 7 7 0 false .int := ⟨rfl, RX7, TX7, 8, tyX7, ⟨rfl, by decide, (gk1 111 rfl rfl), ing7⟩, tyX7_ok, nmX7, rfl, rfl, rfl⟩
theorem oi_x7_3 : Cond.methodLink "CallSteps$Program" 3 objectInit ∈ gT ∧ Cond.instanceMethod objectInit ∈ gT ∧ Cond.code objectInit ⟨#[0xb1]⟩ 1 none ∈ gT := ⟨(gk1 69 rfl rfl), (gk1 28 rfl rfl), (gk1 29 rfl rfl)⟩
theorem nc_x7_9 : NC "CallSteps$Program" 9 4 1 := ⟨RX4, TX4, tyX4, rfl, (gk1 70 rfl rfl), (gk1 71 rfl rfl), (gk1 4 rfl rfl), ing4, tyX4_ok, by decide +kernel⟩
theorem cb_x7_11 : CB "CallSteps$Program" 11 i4_init 1 := ⟨(gk1 72 rfl rfl), mb4_init⟩
theorem ci_x7_11 : CIw "CallSteps$Program" 11 i4_init 1 := ⟨cb_x7_11, rfl, (gk1 73 rfl rfl), rfl⟩
theorem fp_x7_14 : FP "CallSteps$Program" 14 7 0 2 true (.object "CallSteps$Longs") := ⟨rfl, RX7, TX7, 8, tyX7, ⟨rfl, by decide, (gk1 91 rfl rfl), ing7⟩, tyX7_ok, nmX7, rfl, rfl, rfl⟩
theorem fp_x7_20 : FP "CallSteps$Program" 20 7 1 2 true (.object "CallSteps$Longs") := ⟨rfl, RX7, TX7, 8, tyX7, ⟨rfl, by decide, (gk1 92 rfl rfl), ing7⟩, tyX7_ok, nmX7, rfl, rfl, rfl⟩
theorem nc_x7_23 : NC "CallSteps$Program" 23 3 1 := ⟨RX3, TX3, tyX3, rfl, (gk1 81 rfl rfl), (gk1 82 rfl rfl), (gk1 5 rfl rfl), ing3, tyX3_ok, by decide +kernel⟩
theorem k_b_98 : (Int8.ofInt (98)).toInt32 = (98 : Int32) := by decide +kernel
theorem cb_x7_25 : CB "CallSteps$Program" 25 i3_init 1 := ⟨(gk1 83 rfl rfl), mb3_init⟩
theorem ci_x7_25 : CIw "CallSteps$Program" 25 i3_init 1 := ⟨cb_x7_25, rfl, (gk1 84 rfl rfl), rfl⟩
theorem fp_x7_26 : FP "CallSteps$Program" 26 7 2 2 true (.object "CallSteps$Ints") := ⟨rfl, RX7, TX7, 8, tyX7, ⟨rfl, by decide, (gk1 93 rfl rfl), ing7⟩, tyX7_ok, nmX7, rfl, rfl, rfl⟩
theorem fp_x7_30 : FP "CallSteps$Program" 30 7 3 2 true (.object "CallSteps$Ints") := ⟨rfl, RX7, TX7, 8, tyX7, ⟨rfl, by decide, (gk1 94 rfl rfl), ing7⟩, tyX7_ok, nmX7, rfl, rfl, rfl⟩
theorem cb_x7_87 : CB "CallSteps$Program" 87 i7_ofGoal 2 := ⟨(gk3 199 rfl rfl), mb7_ofGoal⟩
theorem cv_x7_87 : CVw "CallSteps$Program" 87 i7_ofGoal 2 7 := ⟨cb_x7_87, mv7_ofGoal⟩
theorem cb_x7_54 : CB "CallSteps$Program" 54 i3_set 2 := ⟨(gk3 60 rfl rfl), mb3_set⟩
theorem cv_x7_54 : CVw "CallSteps$Program" 54 i3_set 2 3 := ⟨cb_x7_54, mv3_set⟩
theorem cb_x7_50 : CB "CallSteps$Program" 50 i4_get 1 := ⟨(gk3 13 rfl rfl), mb4_get⟩
theorem cv_x7_50 : CVw "CallSteps$Program" 50 i4_get 1 4 := ⟨cb_x7_50, mv4_get⟩
theorem fg_x9_19 : FG "CallSteps$Tape" 19 9 2 0 := ⟨rfl, RX9, TX9, 7, rfl, by decide, (gk1 38 rfl rfl), ing9⟩
theorem fg_x9_9 : FG "CallSteps$Tape" 9 9 0 2 := ⟨rfl, RX9, TX9, 7, rfl, by decide, (gk1 36 rfl rfl), ing9⟩
theorem k_b_10 : (Int8.ofInt (10)).toInt32 = (10 : Int32) := by decide +kernel
theorem k_b_97 : (Int8.ofInt (97)).toInt32 = (97 : Int32) := by decide +kernel
theorem k_b_122 : (Int8.ofInt (122)).toInt32 = (122 : Int32) := by decide +kernel
theorem fg_x9_15 : FG "CallSteps$Tape" 15 9 1 0 := ⟨rfl, RX9, TX9, 7, rfl, by decide, (gk1 37 rfl rfl), ing9⟩
theorem fg_x9_25 : FG "CallSteps$Tape" 25 9 4 0 := ⟨rfl, RX9, TX9, 7, rfl, by decide, (gk1 42 rfl rfl), ing9⟩
theorem fg_x9_22 : FG "CallSteps$Tape" 22 9 3 0 := ⟨rfl, RX9, TX9, 7, rfl, by decide, (gk1 40 rfl rfl), ing9⟩
theorem fp_x9_22 : FP "CallSteps$Tape" 22 9 3 0 false .int := ⟨rfl, RX9, TX9, 7, tyX9, ⟨rfl, by decide, (gk1 40 rfl rfl), ing9⟩, tyX9_ok, nmX9, rfl, rfl, rfl⟩
theorem nmh_x9 : "CallSteps$Tape" ≠ "java/lang/invoke/MethodHandle" ∧ "CallSteps$Tape" ≠ "java/lang/invoke/VarHandle" := by decide +kernel
theorem mb9_byteAt : Cond.code (iy i9_byteAt) (ib i9_byteAt) (iL i9_byteAt) (ir i9_byteAt) ∈ gT ∧ Cond.initialized (iy i9_byteAt).cls ∈ gT ∧ ((iy i9_byteAt).cls ≠ "java/lang/invoke/MethodHandle" ∧ (iy i9_byteAt).cls ≠ "java/lang/invoke/VarHandle" ∧ (parseMethodDescriptor (iy i9_byteAt).desc).map (fun d => d.parameters.length) = some 1) := ⟨(gk2 194 rfl rfl), (gk1 2 rfl rfl), nmh_x9.1, nmh_x9.2, pd_1⟩
theorem cb_x9_38 : CB "CallSteps$Tape" 38 i9_byteAt 1 := ⟨(gk2 191 rfl rfl), mb9_byteAt⟩
theorem mv9_byteAt : Cond.instanceMethod (iy i9_byteAt) ∈ gT ∧ Cond.selects (iy i9_byteAt).cls (iy i9_byteAt) (iy i9_byteAt) ∈ gT ∧ vwCl[9]?.map (fun q => q.1) = some (iy i9_byteAt).cls := ⟨(gk2 193 rfl rfl), (gp1 1 rfl), rfl⟩
theorem cv_x9_38 : CVw "CallSteps$Tape" 38 i9_byteAt 1 9 := ⟨cb_x9_38, mv9_byteAt⟩
theorem mb9_isLetter : Cond.code (iy i9_isLetter) (ib i9_isLetter) (iL i9_isLetter) (ir i9_isLetter) ∈ gT ∧ Cond.initialized (iy i9_isLetter).cls ∈ gT ∧ ((iy i9_isLetter).cls ≠ "java/lang/invoke/MethodHandle" ∧ (iy i9_isLetter).cls ≠ "java/lang/invoke/VarHandle" ∧ (parseMethodDescriptor (iy i9_isLetter).desc).map (fun d => d.parameters.length) = some 1) := ⟨(gk2 200 rfl rfl), (gk1 2 rfl rfl), nmh_x9.1, nmh_x9.2, pd_12⟩
theorem cb_x9_46 : CB "CallSteps$Tape" 46 i9_isLetter 1 := ⟨(gk2 198 rfl rfl), mb9_isLetter⟩
theorem cs_x9_46 : CSw "CallSteps$Tape" 46 i9_isLetter 1 := ⟨cb_x9_46, (gk2 199 rfl rfl)⟩
theorem fg_x9_28 : FG "CallSteps$Tape" 28 9 5 1 := ⟨rfl, RX9, TX9, 7, rfl, by decide, (gk1 44 rfl rfl), ing9⟩
theorem fp_x9_28 : FP "CallSteps$Tape" 28 9 5 1 false .long := ⟨rfl, RX9, TX9, 7, tyX9, ⟨rfl, by decide, (gk1 44 rfl rfl), ing9⟩, tyX9_ok, nmX9, rfl, rfl, rfl⟩
theorem fp_x9_15 : FP "CallSteps$Tape" 15 9 1 0 false .int := ⟨rfl, RX9, TX9, 7, tyX9, ⟨rfl, by decide, (gk1 37 rfl rfl), ing9⟩, tyX9_ok, nmX9, rfl, rfl, rfl⟩
theorem k_b_48 : (Int8.ofInt (48)).toInt32 = (48 : Int32) := by decide +kernel
theorem k_b_57 : (Int8.ofInt (57)).toInt32 = (57 : Int32) := by decide +kernel
theorem mb9_isDigit : Cond.code (iy i9_isDigit) (ib i9_isDigit) (iL i9_isDigit) (ir i9_isDigit) ∈ gT ∧ Cond.initialized (iy i9_isDigit).cls ∈ gT ∧ ((iy i9_isDigit).cls ≠ "java/lang/invoke/MethodHandle" ∧ (iy i9_isDigit).cls ≠ "java/lang/invoke/VarHandle" ∧ (parseMethodDescriptor (iy i9_isDigit).desc).map (fun d => d.parameters.length) = some 1) := ⟨(gk2 207 rfl rfl), (gk1 2 rfl rfl), nmh_x9.1, nmh_x9.2, pd_12⟩
theorem cb_x9_52 : CB "CallSteps$Tape" 52 i9_isDigit 1 := ⟨(gk2 205 rfl rfl), mb9_isDigit⟩
theorem cs_x9_52 : CSw "CallSteps$Tape" 52 i9_isDigit 1 := ⟨cb_x9_52, (gk2 206 rfl rfl)⟩
theorem fg_x9_32 : FG "CallSteps$Tape" 32 9 6 0 := ⟨rfl, RX9, TX9, 7, rfl, by decide, (gk1 46 rfl rfl), ing9⟩
theorem fp_x9_32 : FP "CallSteps$Tape" 32 9 6 0 false .int := ⟨rfl, RX9, TX9, 7, tyX9, ⟨rfl, by decide, (gk1 46 rfl rfl), ing9⟩, tyX9_ok, nmX9, rfl, rfl, rfl⟩
theorem k_b_59 : (Int8.ofInt (59)).toInt32 = (59 : Int32) := by decide +kernel
theorem mb9_takeNumber : Cond.code (iy i9_takeNumber) (ib i9_takeNumber) (iL i9_takeNumber) (ir i9_takeNumber) ∈ gT ∧ Cond.initialized (iy i9_takeNumber).cls ∈ gT ∧ ((iy i9_takeNumber).cls ≠ "java/lang/invoke/MethodHandle" ∧ (iy i9_takeNumber).cls ≠ "java/lang/invoke/VarHandle" ∧ (parseMethodDescriptor (iy i9_takeNumber).desc).map (fun d => d.parameters.length) = some 0) := ⟨(gk2 211 rfl rfl), (gk1 2 rfl rfl), nmh_x9.1, nmh_x9.2, pd_3⟩
theorem cb_x9_55 : CB "CallSteps$Tape" 55 i9_takeNumber 0 := ⟨(gk2 208 rfl rfl), mb9_takeNumber⟩
theorem mv9_takeNumber : Cond.instanceMethod (iy i9_takeNumber) ∈ gT ∧ Cond.selects (iy i9_takeNumber).cls (iy i9_takeNumber) (iy i9_takeNumber) ∈ gT ∧ vwCl[9]?.map (fun q => q.1) = some (iy i9_takeNumber).cls := ⟨(gk2 210 rfl rfl), (gp1 3 rfl), rfl⟩
theorem cv_x9_55 : CVw "CallSteps$Tape" 55 i9_takeNumber 0 9 := ⟨cb_x9_55, mv9_takeNumber⟩
theorem mb9_takeWord : Cond.code (iy i9_takeWord) (ib i9_takeWord) (iL i9_takeWord) (ir i9_takeWord) ∈ gT ∧ Cond.initialized (iy i9_takeWord).cls ∈ gT ∧ ((iy i9_takeWord).cls ≠ "java/lang/invoke/MethodHandle" ∧ (iy i9_takeWord).cls ≠ "java/lang/invoke/VarHandle" ∧ (parseMethodDescriptor (iy i9_takeWord).desc).map (fun d => d.parameters.length) = some 0) := ⟨(gk2 204 rfl rfl), (gk1 2 rfl rfl), nmh_x9.1, nmh_x9.2, pd_3⟩
theorem cb_x9_49 : CB "CallSteps$Tape" 49 i9_takeWord 0 := ⟨(gk2 201 rfl rfl), mb9_takeWord⟩
theorem mv9_takeWord : Cond.instanceMethod (iy i9_takeWord) ∈ gT ∧ Cond.selects (iy i9_takeWord).cls (iy i9_takeWord) (iy i9_takeWord) ∈ gT ∧ vwCl[9]?.map (fun q => q.1) = some (iy i9_takeWord).cls := ⟨(gk2 203 rfl rfl), (gp1 2 rfl), rfl⟩
theorem cv_x9_49 : CVw "CallSteps$Tape" 49 i9_takeWord 0 9 := ⟨cb_x9_49, mv9_takeWord⟩
theorem mb9_isBlank : Cond.code (iy i9_isBlank) (ib i9_isBlank) (iL i9_isBlank) (ir i9_isBlank) ∈ gT ∧ Cond.initialized (iy i9_isBlank).cls ∈ gT ∧ ((iy i9_isBlank).cls ≠ "java/lang/invoke/MethodHandle" ∧ (iy i9_isBlank).cls ≠ "java/lang/invoke/VarHandle" ∧ (parseMethodDescriptor (iy i9_isBlank).desc).map (fun d => d.parameters.length) = some 1) := ⟨(gk2 197 rfl rfl), (gk1 2 rfl rfl), nmh_x9.1, nmh_x9.2, pd_12⟩
theorem cb_x9_42 : CB "CallSteps$Tape" 42 i9_isBlank 1 := ⟨(gk2 195 rfl rfl), mb9_isBlank⟩
theorem cs_x9_42 : CSw "CallSteps$Tape" 42 i9_isBlank 1 := ⟨cb_x9_42, (gk2 196 rfl rfl)⟩
theorem fp_x9_25 : FP "CallSteps$Tape" 25 9 4 0 false .int := ⟨rfl, RX9, TX9, 7, tyX9, ⟨rfl, by decide, (gk1 42 rfl rfl), ing9⟩, tyX9_ok, nmX9, rfl, rfl, rfl⟩
theorem mb9_takeNext : Cond.code (iy i9_takeNext) (ib i9_takeNext) (iL i9_takeNext) (ir i9_takeNext) ∈ gT ∧ Cond.initialized (iy i9_takeNext).cls ∈ gT ∧ ((iy i9_takeNext).cls ≠ "java/lang/invoke/MethodHandle" ∧ (iy i9_takeNext).cls ≠ "java/lang/invoke/VarHandle" ∧ (parseMethodDescriptor (iy i9_takeNext).desc).map (fun d => d.parameters.length) = some 0) := ⟨(gk2 190 rfl rfl), (gk1 2 rfl rfl), nmh_x9.1, nmh_x9.2, pd_3⟩
theorem cb_x9_35 : CB "CallSteps$Tape" 35 i9_takeNext 0 := ⟨(gk2 187 rfl rfl), mb9_takeNext⟩
theorem mv9_takeNext : Cond.instanceMethod (iy i9_takeNext) ∈ gT ∧ Cond.selects (iy i9_takeNext).cls (iy i9_takeNext) (iy i9_takeNext) ∈ gT ∧ vwCl[9]?.map (fun q => q.1) = some (iy i9_takeNext).cls := ⟨(gk2 188 rfl rfl), (gk2 189 rfl rfl), rfl⟩
theorem cv_x9_35 : CVw "CallSteps$Tape" 35 i9_takeNext 0 9 := ⟨cb_x9_35, mv9_takeNext⟩
theorem fg_x8_22 : FG "CallSteps$Reader" 22 8 1 2 := ⟨rfl, RX8, TX8, 4, rfl, by decide, (gk1 139 rfl rfl), ing8⟩
theorem fp_x8_22 : FP "CallSteps$Reader" 22 8 1 2 false (.object "CallSteps$Program") := ⟨rfl, RX8, TX8, 4, tyX8, ⟨rfl, by decide, (gk1 139 rfl rfl), ing8⟩, tyX8_ok, nmX8, rfl, rfl, rfl⟩
theorem fg_x8_9 : FG "CallSteps$Reader" 9 8 2 0 := ⟨rfl, RX8, TX8, 4, rfl, by decide, (gk1 140 rfl rfl), ing8⟩
theorem fp_x8_9 : FP "CallSteps$Reader" 9 8 2 0 false .int := ⟨rfl, RX8, TX8, 4, tyX8, ⟨rfl, by decide, (gk1 140 rfl rfl), ing8⟩, tyX8_ok, nmX8, rfl, rfl, rfl⟩
theorem fg_x8_15 : FG "CallSteps$Reader" 15 8 3 0 := ⟨rfl, RX8, TX8, 4, rfl, by decide, (gk1 142 rfl rfl), ing8⟩
theorem fp_x8_15 : FP "CallSteps$Reader" 15 8 3 0 false .int := ⟨rfl, RX8, TX8, 4, tyX8, ⟨rfl, by decide, (gk1 142 rfl rfl), ing8⟩, tyX8_ok, nmX8, rfl, rfl, rfl⟩
theorem fg_x8_18 : FG "CallSteps$Reader" 18 8 0 2 := ⟨rfl, RX8, TX8, 4, rfl, by decide, (gk1 138 rfl rfl), ing8⟩
theorem mb9_takeFirst : Cond.code (iy i9_takeFirst) (ib i9_takeFirst) (iL i9_takeFirst) (ir i9_takeFirst) ∈ gT ∧ Cond.initialized (iy i9_takeFirst).cls ∈ gT ∧ ((iy i9_takeFirst).cls ≠ "java/lang/invoke/MethodHandle" ∧ (iy i9_takeFirst).cls ≠ "java/lang/invoke/VarHandle" ∧ (parseMethodDescriptor (iy i9_takeFirst).desc).map (fun d => d.parameters.length) = some 0) := ⟨(gk2 186 rfl rfl), (gk1 2 rfl rfl), nmh_x9.1, nmh_x9.2, pd_3⟩
theorem cb_x8_98 : CB "CallSteps$Reader" 98 i9_takeFirst 0 := ⟨(gk2 183 rfl rfl), mb9_takeFirst⟩
theorem mv9_takeFirst : Cond.instanceMethod (iy i9_takeFirst) ∈ gT ∧ Cond.selects (iy i9_takeFirst).cls (iy i9_takeFirst) (iy i9_takeFirst) ∈ gT ∧ vwCl[9]?.map (fun q => q.1) = some (iy i9_takeFirst).cls := ⟨(gk2 184 rfl rfl), (gk2 185 rfl rfl), rfl⟩
theorem cv_x8_98 : CVw "CallSteps$Reader" 98 i9_takeFirst 0 9 := ⟨cb_x8_98, mv9_takeFirst⟩
theorem fg_x8_101 : FG "CallSteps$Reader" 101 9 4 0 := ⟨rfl, RX9, TX9, 7, rfl, by decide, (gk1 43 rfl rfl), ing9⟩
theorem oi_x8_3 : Cond.methodLink "CallSteps$Reader" 3 objectInit ∈ gT ∧ Cond.instanceMethod objectInit ∈ gT ∧ Cond.code objectInit ⟨#[0xb1]⟩ 1 none ∈ gT := ⟨(gk1 137 rfl rfl), (gk1 28 rfl rfl), (gk1 29 rfl rfl)⟩
theorem fp_x8_18 : FP "CallSteps$Reader" 18 8 0 2 true (.object "CallSteps$Tape") := ⟨rfl, RX8, TX8, 4, tyX8, ⟨rfl, by decide, (gk1 138 rfl rfl), ing8⟩, tyX8_ok, nmX8, rfl, rfl, rfl⟩
theorem kc_x9_58 : Cond.constantLong "CallSteps$Tape" 58 (495873782885 : Int64) ∈ gT := (gk2 238 rfl rfl)
theorem kc_x9_60 : Cond.constantLong "CallSteps$Tape" 60 (1936287598 : Int64) ∈ gT := (gk2 239 rfl rfl)
theorem kc_x9_62 : Cond.constantLong "CallSteps$Tape" 62 (1920298085 : Int64) ∈ gT := (gk3 0 rfl rfl)
theorem kc_x9_64 : Cond.constantLong "CallSteps$Tape" 64 (1735352684 : Int64) ∈ gT := (gk3 1 rfl rfl)
theorem kc_x9_66 : Cond.constantLong "CallSteps$Tape" 66 (29807 : Int64) ∈ gT := (gk3 2 rfl rfl)
theorem kc_x9_68 : Cond.constantLong "CallSteps$Tape" 68 (1668248436 : Int64) ∈ gT := (gk3 3 rfl rfl)
theorem kc_x9_70 : Cond.constantLong "CallSteps$Tape" 70 (1836020325 : Int64) ∈ gT := (gk3 4 rfl rfl)
theorem fg_x8_35 : FG "CallSteps$Reader" 35 9 3 0 := ⟨rfl, RX9, TX9, 7, rfl, by decide, (gk1 41 rfl rfl), ing9⟩
theorem nmh_x8 : "CallSteps$Reader" ≠ "java/lang/invoke/MethodHandle" ∧ "CallSteps$Reader" ≠ "java/lang/invoke/VarHandle" := by decide +kernel
theorem mb8_fail : Cond.code (iy i8_fail) (ib i8_fail) (iL i8_fail) (ir i8_fail) ∈ gT ∧ Cond.initialized (iy i8_fail).cls ∈ gT ∧ ((iy i8_fail).cls ≠ "java/lang/invoke/MethodHandle" ∧ (iy i8_fail).cls ≠ "java/lang/invoke/VarHandle" ∧ (parseMethodDescriptor (iy i8_fail).desc).map (fun d => d.parameters.length) = some 1) := ⟨(gk2 228 rfl rfl), (gk1 6 rfl rfl), nmh_x8.1, nmh_x8.2, pd_12⟩
theorem cb_x8_104 : CB "CallSteps$Reader" 104 i8_fail 1 := ⟨(gk2 225 rfl rfl), mb8_fail⟩
theorem mv8_fail : Cond.instanceMethod (iy i8_fail) ∈ gT ∧ Cond.selects (iy i8_fail).cls (iy i8_fail) (iy i8_fail) ∈ gT ∧ vwCl[8]?.map (fun q => q.1) = some (iy i8_fail).cls := ⟨(gk2 227 rfl rfl), (gp1 5 rfl), rfl⟩
theorem cv_x8_104 : CVw "CallSteps$Reader" 104 i8_fail 1 8 := ⟨cb_x8_104, mv8_fail⟩
theorem pd_26 : (parseMethodDescriptor "()Z").map (fun d => d.parameters.length) = some 0 := by decide +kernel
theorem mb9_isName : Cond.code (iy i9_isName) (ib i9_isName) (iL i9_isName) (ir i9_isName) ∈ gT ∧ Cond.initialized (iy i9_isName).cls ∈ gT ∧ ((iy i9_isName).cls ≠ "java/lang/invoke/MethodHandle" ∧ (iy i9_isName).cls ≠ "java/lang/invoke/VarHandle" ∧ (parseMethodDescriptor (iy i9_isName).desc).map (fun d => d.parameters.length) = some 0) := ⟨(gk2 237 rfl rfl), (gk1 2 rfl rfl), nmh_x9.1, nmh_x9.2, pd_26⟩
theorem cb_x8_130 : CB "CallSteps$Reader" 130 i9_isName 0 := ⟨(gk2 234 rfl rfl), mb9_isName⟩
theorem mv9_isName : Cond.instanceMethod (iy i9_isName) ∈ gT ∧ Cond.selects (iy i9_isName).cls (iy i9_isName) (iy i9_isName) ∈ gT ∧ vwCl[9]?.map (fun q => q.1) = some (iy i9_isName).cls := ⟨(gk2 235 rfl rfl), (gk2 236 rfl rfl), rfl⟩
theorem cv_x8_130 : CVw "CallSteps$Reader" 130 i9_isName 0 9 := ⟨cb_x8_130, mv9_isName⟩
theorem mb8_refuse : Cond.code (iy i8_refuse) (ib i8_refuse) (iL i8_refuse) (ir i8_refuse) ∈ gT ∧ Cond.initialized (iy i8_refuse).cls ∈ gT ∧ ((iy i8_refuse).cls ≠ "java/lang/invoke/MethodHandle" ∧ (iy i8_refuse).cls ≠ "java/lang/invoke/VarHandle" ∧ (parseMethodDescriptor (iy i8_refuse).desc).map (fun d => d.parameters.length) = some 0) := ⟨(gk3 8 rfl rfl), (gk1 6 rfl rfl), nmh_x8.1, nmh_x8.2, pd_26⟩
theorem cb_x8_65 : CB "CallSteps$Reader" 65 i8_refuse 0 := ⟨(gk3 5 rfl rfl), mb8_refuse⟩
theorem mv8_refuse : Cond.instanceMethod (iy i8_refuse) ∈ gT ∧ Cond.selects (iy i8_refuse).cls (iy i8_refuse) (iy i8_refuse) ∈ gT ∧ vwCl[8]?.map (fun q => q.1) = some (iy i8_refuse).cls := ⟨(gk3 7 rfl rfl), (gp1 7 rfl), rfl⟩
theorem cv_x8_65 : CVw "CallSteps$Reader" 65 i8_refuse 0 8 := ⟨cb_x8_65, mv8_refuse⟩
theorem fg_x8_73 : FG "CallSteps$Reader" 73 9 5 1 := ⟨rfl, RX9, TX9, 7, rfl, by decide, (gk1 45 rfl rfl), ing9⟩
theorem pd_27 : (parseMethodDescriptor "(J)I").map (fun d => d.parameters.length) = some 1 := by decide +kernel
theorem mb7_stateNamed : Cond.code (iy i7_stateNamed) (ib i7_stateNamed) (iL i7_stateNamed) (ir i7_stateNamed) ∈ gT ∧ Cond.initialized (iy i7_stateNamed).cls ∈ gT ∧ ((iy i7_stateNamed).cls ≠ "java/lang/invoke/MethodHandle" ∧ (iy i7_stateNamed).cls ≠ "java/lang/invoke/VarHandle" ∧ (parseMethodDescriptor (iy i7_stateNamed).desc).map (fun d => d.parameters.length) = some 1) := ⟨(gk3 12 rfl rfl), (gk1 3 rfl rfl), nmh_x7.1, nmh_x7.2, pd_27⟩
theorem cb_x8_77 : CB "CallSteps$Reader" 77 i7_stateNamed 1 := ⟨(gk3 9 rfl rfl), mb7_stateNamed⟩
theorem mv7_stateNamed : Cond.instanceMethod (iy i7_stateNamed) ∈ gT ∧ Cond.selects (iy i7_stateNamed).cls (iy i7_stateNamed) (iy i7_stateNamed) ∈ gT ∧ vwCl[7]?.map (fun q => q.1) = some (iy i7_stateNamed).cls := ⟨(gk3 10 rfl rfl), (gk3 11 rfl rfl), rfl⟩
theorem cv_x8_77 : CVw "CallSteps$Reader" 77 i7_stateNamed 1 7 := ⟨cb_x8_77, mv7_stateNamed⟩
theorem mb7_signNamed : Cond.code (iy i7_signNamed) (ib i7_signNamed) (iL i7_signNamed) (ir i7_signNamed) ∈ gT ∧ Cond.initialized (iy i7_signNamed).cls ∈ gT ∧ ((iy i7_signNamed).cls ≠ "java/lang/invoke/MethodHandle" ∧ (iy i7_signNamed).cls ≠ "java/lang/invoke/VarHandle" ∧ (parseMethodDescriptor (iy i7_signNamed).desc).map (fun d => d.parameters.length) = some 1) := ⟨(gk3 21 rfl rfl), (gk1 3 rfl rfl), nmh_x7.1, nmh_x7.2, pd_27⟩
theorem cb_x8_85 : CB "CallSteps$Reader" 85 i7_signNamed 1 := ⟨(gk3 18 rfl rfl), mb7_signNamed⟩
theorem mv7_signNamed : Cond.instanceMethod (iy i7_signNamed) ∈ gT ∧ Cond.selects (iy i7_signNamed).cls (iy i7_signNamed) (iy i7_signNamed) ∈ gT ∧ vwCl[7]?.map (fun q => q.1) = some (iy i7_signNamed).cls := ⟨(gk3 19 rfl rfl), (gk3 20 rfl rfl), rfl⟩
theorem cv_x8_85 : CVw "CallSteps$Reader" 85 i7_signNamed 1 7 := ⟨cb_x8_85, mv7_signNamed⟩
theorem cb_x8_111 : CB "CallSteps$Reader" 111 i9_takeNext 0 := ⟨(gk2 229 rfl rfl), mb9_takeNext⟩
theorem cv_x8_111 : CVw "CallSteps$Reader" 111 i9_takeNext 0 9 := ⟨cb_x8_111, mv9_takeNext⟩
theorem pd_28 : (parseMethodDescriptor "(III)V").map (fun d => d.parameters.length) = some 3 := by decide +kernel
theorem mb7_setGoal : Cond.code (iy i7_setGoal) (ib i7_setGoal) (iL i7_setGoal) (ir i7_setGoal) ∈ gT ∧ Cond.initialized (iy i7_setGoal).cls ∈ gT ∧ ((iy i7_setGoal).cls ≠ "java/lang/invoke/MethodHandle" ∧ (iy i7_setGoal).cls ≠ "java/lang/invoke/VarHandle" ∧ (parseMethodDescriptor (iy i7_setGoal).desc).map (fun d => d.parameters.length) = some 3) := ⟨(gk3 90 rfl rfl), (gk1 3 rfl rfl), nmh_x7.1, nmh_x7.2, pd_28⟩
theorem cb_x8_166 : CB "CallSteps$Reader" 166 i7_setGoal 3 := ⟨(gk3 87 rfl rfl), mb7_setGoal⟩
theorem mv7_setGoal : Cond.instanceMethod (iy i7_setGoal) ∈ gT ∧ Cond.selects (iy i7_setGoal).cls (iy i7_setGoal) (iy i7_setGoal) ∈ gT ∧ vwCl[7]?.map (fun q => q.1) = some (iy i7_setGoal).cls := ⟨(gk3 88 rfl rfl), (gk3 89 rfl rfl), rfl⟩
theorem cv_x8_166 : CVw "CallSteps$Reader" 166 i7_setGoal 3 7 := ⟨cb_x8_166, mv7_setGoal⟩
theorem mb8_takeNamed : Cond.code (iy i8_takeNamed) (ib i8_takeNamed) (iL i8_takeNamed) (ir i8_takeNamed) ∈ gT ∧ Cond.initialized (iy i8_takeNamed).cls ∈ gT ∧ ((iy i8_takeNamed).cls ≠ "java/lang/invoke/MethodHandle" ∧ (iy i8_takeNamed).cls ≠ "java/lang/invoke/VarHandle" ∧ (parseMethodDescriptor (iy i8_takeNamed).desc).map (fun d => d.parameters.length) = some 1) := ⟨(gk3 55 rfl rfl), (gk1 6 rfl rfl), nmh_x8.1, nmh_x8.2, pd_1⟩
theorem cb_x8_81 : CB "CallSteps$Reader" 81 i8_takeNamed 1 := ⟨(gk3 52 rfl rfl), mb8_takeNamed⟩
theorem mv8_takeNamed : Cond.instanceMethod (iy i8_takeNamed) ∈ gT ∧ Cond.selects (iy i8_takeNamed).cls (iy i8_takeNamed) (iy i8_takeNamed) ∈ gT ∧ vwCl[8]?.map (fun q => q.1) = some (iy i8_takeNamed).cls := ⟨(gk3 54 rfl rfl), (gp1 12 rfl), rfl⟩
theorem cv_x8_81 : CVw "CallSteps$Reader" 81 i8_takeNamed 1 8 := ⟨cb_x8_81, mv8_takeNamed⟩
theorem mb8_readsSemicolon : Cond.code (iy i8_readsSemicolon) (ib i8_readsSemicolon) (iL i8_readsSemicolon) (ir i8_readsSemicolon) ∈ gT ∧ Cond.initialized (iy i8_readsSemicolon).cls ∈ gT ∧ ((iy i8_readsSemicolon).cls ≠ "java/lang/invoke/MethodHandle" ∧ (iy i8_readsSemicolon).cls ≠ "java/lang/invoke/VarHandle" ∧ (parseMethodDescriptor (iy i8_readsSemicolon).desc).map (fun d => d.parameters.length) = some 0) := ⟨(gk3 33 rfl rfl), (gk1 6 rfl rfl), nmh_x8.1, nmh_x8.2, pd_26⟩
theorem cb_x8_121 : CB "CallSteps$Reader" 121 i8_readsSemicolon 0 := ⟨(gk3 30 rfl rfl), mb8_readsSemicolon⟩
theorem mv8_readsSemicolon : Cond.instanceMethod (iy i8_readsSemicolon) ∈ gT ∧ Cond.selects (iy i8_readsSemicolon).cls (iy i8_readsSemicolon) (iy i8_readsSemicolon) ∈ gT ∧ vwCl[8]?.map (fun q => q.1) = some (iy i8_readsSemicolon).cls := ⟨(gk3 32 rfl rfl), (gp1 8 rfl), rfl⟩
theorem cv_x8_121 : CVw "CallSteps$Reader" 121 i8_readsSemicolon 0 8 := ⟨cb_x8_121, mv8_readsSemicolon⟩
theorem fg_x8_163 : FG "CallSteps$Reader" 163 7 7 0 := ⟨rfl, RX7, TX7, 8, rfl, by decide, (gk1 114 rfl rfl), ing7⟩
theorem fp_x8_163 : FP "CallSteps$Reader" 163 7 7 0 false .int := ⟨rfl, RX7, TX7, 8, tyX7, ⟨rfl, by decide, (gk1 114 rfl rfl), ing7⟩, tyX7_ok, nmX7, rfl, rfl, rfl⟩
theorem mb8_readsGoalSigns : Cond.code (iy i8_readsGoalSigns) (ib i8_readsGoalSigns) (iL i8_readsGoalSigns) (ir i8_readsGoalSigns) ∈ gT ∧ Cond.initialized (iy i8_readsGoalSigns).cls ∈ gT ∧ ((iy i8_readsGoalSigns).cls ≠ "java/lang/invoke/MethodHandle" ∧ (iy i8_readsGoalSigns).cls ≠ "java/lang/invoke/VarHandle" ∧ (parseMethodDescriptor (iy i8_readsGoalSigns).desc).map (fun d => d.parameters.length) = some 1) := ⟨(gk3 94 rfl rfl), (gk1 6 rfl rfl), nmh_x8.1, nmh_x8.2, pd_12⟩
theorem cb_x8_169 : CB "CallSteps$Reader" 169 i8_readsGoalSigns 1 := ⟨(gk3 91 rfl rfl), mb8_readsGoalSigns⟩
theorem mv8_readsGoalSigns : Cond.instanceMethod (iy i8_readsGoalSigns) ∈ gT ∧ Cond.selects (iy i8_readsGoalSigns).cls (iy i8_readsGoalSigns) (iy i8_readsGoalSigns) ∈ gT ∧ vwCl[8]?.map (fun q => q.1) = some (iy i8_readsGoalSigns).cls := ⟨(gk3 93 rfl rfl), (gp2 2 rfl), rfl⟩
theorem cv_x8_169 : CVw "CallSteps$Reader" 169 i8_readsGoalSigns 1 8 := ⟨cb_x8_169, mv8_readsGoalSigns⟩
theorem kc_x8_172 : Cond.constantLong "CallSteps$Reader" 172 (1836020325 : Int64) ∈ gT := (gk3 95 rfl rfl)
theorem pd_29 : (parseMethodDescriptor "(J)Z").map (fun d => d.parameters.length) = some 1 := by decide +kernel
theorem mb9_isWord : Cond.code (iy i9_isWord) (ib i9_isWord) (iL i9_isWord) (ir i9_isWord) ∈ gT ∧ Cond.initialized (iy i9_isWord).cls ∈ gT ∧ ((iy i9_isWord).cls ≠ "java/lang/invoke/MethodHandle" ∧ (iy i9_isWord).cls ≠ "java/lang/invoke/VarHandle" ∧ (parseMethodDescriptor (iy i9_isWord).desc).map (fun d => d.parameters.length) = some 1) := ⟨(gk2 220 rfl rfl), (gk1 2 rfl rfl), nmh_x9.1, nmh_x9.2, pd_29⟩
theorem cb_x8_42 : CB "CallSteps$Reader" 42 i9_isWord 1 := ⟨(gk2 217 rfl rfl), mb9_isWord⟩
theorem mv9_isWord : Cond.instanceMethod (iy i9_isWord) ∈ gT ∧ Cond.selects (iy i9_isWord).cls (iy i9_isWord) (iy i9_isWord) ∈ gT ∧ vwCl[9]?.map (fun q => q.1) = some (iy i9_isWord).cls := ⟨(gk2 218 rfl rfl), (gk2 219 rfl rfl), rfl⟩
theorem cv_x8_42 : CVw "CallSteps$Reader" 42 i9_isWord 1 9 := ⟨cb_x8_42, mv9_isWord⟩
theorem fg_x8_92 : FG "CallSteps$Reader" 92 6 2 0 := ⟨rfl, RX6, TX6, 4, rfl, by decide, (gk1 165 rfl rfl), ing6⟩
theorem fp_x8_92 : FP "CallSteps$Reader" 92 6 2 0 false .int := ⟨rfl, RX6, TX6, 4, tyX6, ⟨rfl, by decide, (gk1 165 rfl rfl), ing6⟩, tyX6_ok, nmX6, rfl, rfl, rfl⟩
theorem mb6_turnOver : Cond.code (iy i6_turnOver) (ib i6_turnOver) (iL i6_turnOver) (ir i6_turnOver) ∈ gT ∧ Cond.initialized (iy i6_turnOver).cls ∈ gT ∧ ((iy i6_turnOver).cls ≠ "java/lang/invoke/MethodHandle" ∧ (iy i6_turnOver).cls ≠ "java/lang/invoke/VarHandle" ∧ (parseMethodDescriptor (iy i6_turnOver).desc).map (fun d => d.parameters.length) = some 0) := ⟨(gk3 161 rfl rfl), (gk1 7 rfl rfl), nmh_x6.1, nmh_x6.2, pd_3⟩
theorem cb_x8_95 : CB "CallSteps$Reader" 95 i6_turnOver 0 := ⟨(gk3 158 rfl rfl), mb6_turnOver⟩
theorem mv6_turnOver : Cond.instanceMethod (iy i6_turnOver) ∈ gT ∧ Cond.selects (iy i6_turnOver).cls (iy i6_turnOver) (iy i6_turnOver) ∈ gT ∧ vwCl[6]?.map (fun q => q.1) = some (iy i6_turnOver).cls := ⟨(gk3 159 rfl rfl), (gk3 160 rfl rfl), rfl⟩
theorem cv_x8_95 : CVw "CallSteps$Reader" 95 i6_turnOver 0 6 := ⟨cb_x8_95, mv6_turnOver⟩
theorem k_b_40 : (Int8.ofInt (40)).toInt32 = (40 : Int32) := by decide +kernel
theorem cb_x8_88 : CB "CallSteps$Reader" 88 i6_push 1 := ⟨(gk3 153 rfl rfl), mb6_push⟩
theorem cv_x8_88 : CVw "CallSteps$Reader" 88 i6_push 1 6 := ⟨cb_x8_88, mv6_push⟩
theorem pd_30 : (parseMethodDescriptor "(LCallSteps$Program;)V").map (fun d => d.parameters.length) = some 1 := by decide +kernel
theorem mb8_begin : Cond.code (iy i8_begin) (ib i8_begin) (iL i8_begin) (ir i8_begin) ∈ gT ∧ Cond.initialized (iy i8_begin).cls ∈ gT ∧ ((iy i8_begin).cls ≠ "java/lang/invoke/MethodHandle" ∧ (iy i8_begin).cls ≠ "java/lang/invoke/VarHandle" ∧ (parseMethodDescriptor (iy i8_begin).desc).map (fun d => d.parameters.length) = some 1) := ⟨(gk2 182 rfl rfl), (gk1 6 rfl rfl), nmh_x8.1, nmh_x8.2, pd_30⟩
theorem cb_x8_26 : CB "CallSteps$Reader" 26 i8_begin 1 := ⟨(gk2 179 rfl rfl), mb8_begin⟩
theorem mv8_begin : Cond.instanceMethod (iy i8_begin) ∈ gT ∧ Cond.selects (iy i8_begin).cls (iy i8_begin) (iy i8_begin) ∈ gT ∧ vwCl[8]?.map (fun q => q.1) = some (iy i8_begin).cls := ⟨(gk2 181 rfl rfl), (gp1 0 rfl), rfl⟩
theorem cv_x8_26 : CVw "CallSteps$Reader" 26 i8_begin 1 8 := ⟨cb_x8_26, mv8_begin⟩
theorem cb_x8_68 : CB "CallSteps$Reader" 68 i6_forget 0 := ⟨(gk3 152 rfl rfl), mb6_forget⟩
theorem cv_x8_68 : CVw "CallSteps$Reader" 68 i6_forget 0 6 := ⟨cb_x8_68, mv6_forget⟩
theorem fg_x8_108 : FG "CallSteps$Reader" 108 7 4 0 := ⟨rfl, RX7, TX7, 8, rfl, by decide, (gk1 98 rfl rfl), ing7⟩
theorem mb8_isNewName : Cond.code (iy i8_isNewName) (ib i8_isNewName) (iL i8_isNewName) (ir i8_isNewName) ∈ gT ∧ Cond.initialized (iy i8_isNewName).cls ∈ gT ∧ ((iy i8_isNewName).cls ≠ "java/lang/invoke/MethodHandle" ∧ (iy i8_isNewName).cls ≠ "java/lang/invoke/VarHandle" ∧ (parseMethodDescriptor (iy i8_isNewName).desc).map (fun d => d.parameters.length) = some 0) := ⟨(gk2 233 rfl rfl), (gk1 6 rfl rfl), nmh_x8.1, nmh_x8.2, pd_26⟩
theorem cb_x8_114 : CB "CallSteps$Reader" 114 i8_isNewName 0 := ⟨(gk2 230 rfl rfl), mb8_isNewName⟩
theorem mv8_isNewName : Cond.instanceMethod (iy i8_isNewName) ∈ gT ∧ Cond.selects (iy i8_isNewName).cls (iy i8_isNewName) (iy i8_isNewName) ∈ gT ∧ vwCl[8]?.map (fun q => q.1) = some (iy i8_isNewName).cls := ⟨(gk2 232 rfl rfl), (gp1 6 rfl), rfl⟩
theorem cv_x8_114 : CVw "CallSteps$Reader" 114 i8_isNewName 0 8 := ⟨cb_x8_114, mv8_isNewName⟩
theorem mb7_addState : Cond.code (iy i7_addState) (ib i7_addState) (iL i7_addState) (ir i7_addState) ∈ gT ∧ Cond.initialized (iy i7_addState).cls ∈ gT ∧ ((iy i7_addState).cls ≠ "java/lang/invoke/MethodHandle" ∧ (iy i7_addState).cls ≠ "java/lang/invoke/VarHandle" ∧ (parseMethodDescriptor (iy i7_addState).desc).map (fun d => d.parameters.length) = some 1) := ⟨(gk3 25 rfl rfl), (gk1 3 rfl rfl), nmh_x7.1, nmh_x7.2, pd_16⟩
theorem cb_x8_117 : CB "CallSteps$Reader" 117 i7_addState 1 := ⟨(gk3 22 rfl rfl), mb7_addState⟩
theorem mv7_addState : Cond.instanceMethod (iy i7_addState) ∈ gT ∧ Cond.selects (iy i7_addState).cls (iy i7_addState) (iy i7_addState) ∈ gT ∧ vwCl[7]?.map (fun q => q.1) = some (iy i7_addState).cls := ⟨(gk3 23 rfl rfl), (gk3 24 rfl rfl), rfl⟩
theorem cv_x8_117 : CVw "CallSteps$Reader" 117 i7_addState 1 7 := ⟨cb_x8_117, mv7_addState⟩
theorem fg_x8_124 : FG "CallSteps$Reader" 124 7 5 0 := ⟨rfl, RX7, TX7, 8, rfl, by decide, (gk1 104 rfl rfl), ing7⟩
theorem mb7_addSign : Cond.code (iy i7_addSign) (ib i7_addSign) (iL i7_addSign) (ir i7_addSign) ∈ gT ∧ Cond.initialized (iy i7_addSign).cls ∈ gT ∧ ((iy i7_addSign).cls ≠ "java/lang/invoke/MethodHandle" ∧ (iy i7_addSign).cls ≠ "java/lang/invoke/VarHandle" ∧ (parseMethodDescriptor (iy i7_addSign).desc).map (fun d => d.parameters.length) = some 1) := ⟨(gk3 42 rfl rfl), (gk1 3 rfl rfl), nmh_x7.1, nmh_x7.2, pd_16⟩
theorem cb_x8_127 : CB "CallSteps$Reader" 127 i7_addSign 1 := ⟨(gk3 39 rfl rfl), mb7_addSign⟩
theorem mv7_addSign : Cond.instanceMethod (iy i7_addSign) ∈ gT ∧ Cond.selects (iy i7_addSign).cls (iy i7_addSign) (iy i7_addSign) ∈ gT ∧ vwCl[7]?.map (fun q => q.1) = some (iy i7_addSign).cls := ⟨(gk3 40 rfl rfl), (gk3 41 rfl rfl), rfl⟩
theorem cv_x8_127 : CVw "CallSteps$Reader" 127 i7_addSign 1 7 := ⟨cb_x8_127, mv7_addSign⟩
theorem mb7_setRule : Cond.code (iy i7_setRule) (ib i7_setRule) (iL i7_setRule) (ir i7_setRule) ∈ gT ∧ Cond.initialized (iy i7_setRule).cls ∈ gT ∧ ((iy i7_setRule).cls ≠ "java/lang/invoke/MethodHandle" ∧ (iy i7_setRule).cls ≠ "java/lang/invoke/VarHandle" ∧ (parseMethodDescriptor (iy i7_setRule).desc).map (fun d => d.parameters.length) = some 3) := ⟨(gk3 59 rfl rfl), (gk1 3 rfl rfl), nmh_x7.1, nmh_x7.2, pd_28⟩
theorem cb_x8_152 : CB "CallSteps$Reader" 152 i7_setRule 3 := ⟨(gk3 56 rfl rfl), mb7_setRule⟩
theorem mv7_setRule : Cond.instanceMethod (iy i7_setRule) ∈ gT ∧ Cond.selects (iy i7_setRule).cls (iy i7_setRule) (iy i7_setRule) ∈ gT ∧ vwCl[7]?.map (fun q => q.1) = some (iy i7_setRule).cls := ⟨(gk3 57 rfl rfl), (gk3 58 rfl rfl), rfl⟩
theorem cv_x8_152 : CVw "CallSteps$Reader" 152 i7_setRule 3 7 := ⟨cb_x8_152, mv7_setRule⟩
theorem kc_x8_156 : Cond.constantLong "CallSteps$Reader" 156 (29807 : Int64) ∈ gT := (gk3 72 rfl rfl)
theorem kc_x8_158 : Cond.constantLong "CallSteps$Reader" 158 (1668248436 : Int64) ∈ gT := (gk3 81 rfl rfl)
theorem fg_x8_160 : FG "CallSteps$Reader" 160 9 6 0 := ⟨rfl, RX9, TX9, 7, rfl, by decide, (gk1 47 rfl rfl), ing9⟩
theorem k_b_99 : (Int8.ofInt (99)).toInt32 = (99 : Int32) := by decide +kernel
theorem fg_x8_133 : FG "CallSteps$Reader" 133 7 6 0 := ⟨rfl, RX7, TX7, 8, rfl, by decide, (gk1 110 rfl rfl), ing7⟩
theorem fp_x8_133 : FP "CallSteps$Reader" 133 7 6 0 false .int := ⟨rfl, RX7, TX7, 8, tyX7, ⟨rfl, by decide, (gk1 110 rfl rfl), ing7⟩, tyX7_ok, nmX7, rfl, rfl, rfl⟩
theorem k_b_14 : (Int8.ofInt (14)).toInt32 = (14 : Int32) := by decide +kernel
theorem mb8_readsRuleState : Cond.code (iy i8_readsRuleState) (ib i8_readsRuleState) (iL i8_readsRuleState) (ir i8_readsRuleState) ∈ gT ∧ Cond.initialized (iy i8_readsRuleState).cls ∈ gT ∧ ((iy i8_readsRuleState).cls ≠ "java/lang/invoke/MethodHandle" ∧ (iy i8_readsRuleState).cls ≠ "java/lang/invoke/VarHandle" ∧ (parseMethodDescriptor (iy i8_readsRuleState).desc).map (fun d => d.parameters.length) = some 2) := ⟨(gk3 51 rfl rfl), (gk1 6 rfl rfl), nmh_x8.1, nmh_x8.2, pd_13⟩
theorem cb_x8_136 : CB "CallSteps$Reader" 136 i8_readsRuleState 2 := ⟨(gk3 48 rfl rfl), mb8_readsRuleState⟩
theorem mv8_readsRuleState : Cond.instanceMethod (iy i8_readsRuleState) ∈ gT ∧ Cond.selects (iy i8_readsRuleState).cls (iy i8_readsRuleState) (iy i8_readsRuleState) ∈ gT ∧ vwCl[8]?.map (fun q => q.1) = some (iy i8_readsRuleState).cls := ⟨(gk3 50 rfl rfl), (gp1 11 rfl), rfl⟩
theorem cv_x8_136 : CVw "CallSteps$Reader" 136 i8_readsRuleState 2 8 := ⟨cb_x8_136, mv8_readsRuleState⟩
theorem mb8_readsRuleSign : Cond.code (iy i8_readsRuleSign) (ib i8_readsRuleSign) (iL i8_readsRuleSign) (ir i8_readsRuleSign) ∈ gT ∧ Cond.initialized (iy i8_readsRuleSign).cls ∈ gT ∧ ((iy i8_readsRuleSign).cls ≠ "java/lang/invoke/MethodHandle" ∧ (iy i8_readsRuleSign).cls ≠ "java/lang/invoke/VarHandle" ∧ (parseMethodDescriptor (iy i8_readsRuleSign).desc).map (fun d => d.parameters.length) = some 2) := ⟨(gk3 67 rfl rfl), (gk1 6 rfl rfl), nmh_x8.1, nmh_x8.2, pd_13⟩
theorem cb_x8_140 : CB "CallSteps$Reader" 140 i8_readsRuleSign 2 := ⟨(gk3 64 rfl rfl), mb8_readsRuleSign⟩
theorem mv8_readsRuleSign : Cond.instanceMethod (iy i8_readsRuleSign) ∈ gT ∧ Cond.selects (iy i8_readsRuleSign).cls (iy i8_readsRuleSign) (iy i8_readsRuleSign) ∈ gT ∧ vwCl[8]?.map (fun q => q.1) = some (iy i8_readsRuleSign).cls := ⟨(gk3 66 rfl rfl), (gp1 13 rfl), rfl⟩
theorem cv_x8_140 : CVw "CallSteps$Reader" 140 i8_readsRuleSign 2 8 := ⟨cb_x8_140, mv8_readsRuleSign⟩
theorem mb8_readsTo : Cond.code (iy i8_readsTo) (ib i8_readsTo) (iL i8_readsTo) (ir i8_readsTo) ∈ gT ∧ Cond.initialized (iy i8_readsTo).cls ∈ gT ∧ ((iy i8_readsTo).cls ≠ "java/lang/invoke/MethodHandle" ∧ (iy i8_readsTo).cls ≠ "java/lang/invoke/VarHandle" ∧ (parseMethodDescriptor (iy i8_readsTo).desc).map (fun d => d.parameters.length) = some 0) := ⟨(gk3 71 rfl rfl), (gk1 6 rfl rfl), nmh_x8.1, nmh_x8.2, pd_26⟩
theorem cb_x8_143 : CB "CallSteps$Reader" 143 i8_readsTo 0 := ⟨(gk3 68 rfl rfl), mb8_readsTo⟩
theorem mv8_readsTo : Cond.instanceMethod (iy i8_readsTo) ∈ gT ∧ Cond.selects (iy i8_readsTo).cls (iy i8_readsTo) (iy i8_readsTo) ∈ gT ∧ vwCl[8]?.map (fun q => q.1) = some (iy i8_readsTo).cls := ⟨(gk3 70 rfl rfl), (gp1 14 rfl), rfl⟩
theorem cv_x8_143 : CVw "CallSteps$Reader" 143 i8_readsTo 0 8 := ⟨cb_x8_143, mv8_readsTo⟩
theorem mb8_readsRuleSigns : Cond.code (iy i8_readsRuleSigns) (ib i8_readsRuleSigns) (iL i8_readsRuleSigns) (ir i8_readsRuleSigns) ∈ gT ∧ Cond.initialized (iy i8_readsRuleSigns).cls ∈ gT ∧ ((iy i8_readsRuleSigns).cls ≠ "java/lang/invoke/MethodHandle" ∧ (iy i8_readsRuleSigns).cls ≠ "java/lang/invoke/VarHandle" ∧ (parseMethodDescriptor (iy i8_readsRuleSigns).desc).map (fun d => d.parameters.length) = some 1) := ⟨(gk3 76 rfl rfl), (gk1 6 rfl rfl), nmh_x8.1, nmh_x8.2, pd_12⟩
theorem cb_x8_146 : CB "CallSteps$Reader" 146 i8_readsRuleSigns 1 := ⟨(gk3 73 rfl rfl), mb8_readsRuleSigns⟩
theorem mv8_readsRuleSigns : Cond.instanceMethod (iy i8_readsRuleSigns) ∈ gT ∧ Cond.selects (iy i8_readsRuleSigns).cls (iy i8_readsRuleSigns) (iy i8_readsRuleSigns) ∈ gT ∧ vwCl[8]?.map (fun q => q.1) = some (iy i8_readsRuleSigns).cls := ⟨(gk3 75 rfl rfl), (gp1 15 rfl), rfl⟩
theorem cv_x8_146 : CVw "CallSteps$Reader" 146 i8_readsRuleSigns 1 8 := ⟨cb_x8_146, mv8_readsRuleSigns⟩
theorem mb8_readsRuleCost : Cond.code (iy i8_readsRuleCost) (ib i8_readsRuleCost) (iL i8_readsRuleCost) (ir i8_readsRuleCost) ∈ gT ∧ Cond.initialized (iy i8_readsRuleCost).cls ∈ gT ∧ ((iy i8_readsRuleCost).cls ≠ "java/lang/invoke/MethodHandle" ∧ (iy i8_readsRuleCost).cls ≠ "java/lang/invoke/VarHandle" ∧ (parseMethodDescriptor (iy i8_readsRuleCost).desc).map (fun d => d.parameters.length) = some 1) := ⟨(gk3 80 rfl rfl), (gk1 6 rfl rfl), nmh_x8.1, nmh_x8.2, pd_12⟩
theorem cb_x8_149 : CB "CallSteps$Reader" 149 i8_readsRuleCost 1 := ⟨(gk3 77 rfl rfl), mb8_readsRuleCost⟩
theorem mv8_readsRuleCost : Cond.instanceMethod (iy i8_readsRuleCost) ∈ gT ∧ Cond.selects (iy i8_readsRuleCost).cls (iy i8_readsRuleCost) (iy i8_readsRuleCost) ∈ gT ∧ vwCl[8]?.map (fun q => q.1) = some (iy i8_readsRuleCost).cls := ⟨(gk3 79 rfl rfl), (gp2 0 rfl), rfl⟩
theorem cv_x8_149 : CVw "CallSteps$Reader" 149 i8_readsRuleCost 1 8 := ⟨cb_x8_149, mv8_readsRuleCost⟩
theorem k_s_800 : (Int16.ofInt (800)).toInt32 = (800 : Int32) := by decide +kernel
theorem kc_x8_40 : Cond.constantLong "CallSteps$Reader" 40 (495873782885 : Int64) ∈ gT := (gk2 216 rfl rfl)
theorem kc_x8_50 : Cond.constantLong "CallSteps$Reader" 50 (1936287598 : Int64) ∈ gT := (gk3 34 rfl rfl)
theorem kc_x8_55 : Cond.constantLong "CallSteps$Reader" 55 (1920298085 : Int64) ∈ gT := (gk3 43 rfl rfl)
theorem kc_x8_60 : Cond.constantLong "CallSteps$Reader" 60 (1735352684 : Int64) ∈ gT := (gk3 82 rfl rfl)
theorem mb8_readsGoal : Cond.code (iy i8_readsGoal) (ib i8_readsGoal) (iL i8_readsGoal) (ir i8_readsGoal) ∈ gT ∧ Cond.initialized (iy i8_readsGoal).cls ∈ gT ∧ ((iy i8_readsGoal).cls ≠ "java/lang/invoke/MethodHandle" ∧ (iy i8_readsGoal).cls ≠ "java/lang/invoke/VarHandle" ∧ (parseMethodDescriptor (iy i8_readsGoal).desc).map (fun d => d.parameters.length) = some 0) := ⟨(gk3 86 rfl rfl), (gk1 6 rfl rfl), nmh_x8.1, nmh_x8.2, pd_26⟩
theorem cb_x8_62 : CB "CallSteps$Reader" 62 i8_readsGoal 0 := ⟨(gk3 83 rfl rfl), mb8_readsGoal⟩
theorem mv8_readsGoal : Cond.instanceMethod (iy i8_readsGoal) ∈ gT ∧ Cond.selects (iy i8_readsGoal).cls (iy i8_readsGoal) (iy i8_readsGoal) ∈ gT ∧ vwCl[8]?.map (fun q => q.1) = some (iy i8_readsGoal).cls := ⟨(gk3 85 rfl rfl), (gp2 1 rfl), rfl⟩
theorem cv_x8_62 : CVw "CallSteps$Reader" 62 i8_readsGoal 0 8 := ⟨cb_x8_62, mv8_readsGoal⟩
theorem mb8_readsRule : Cond.code (iy i8_readsRule) (ib i8_readsRule) (iL i8_readsRule) (ir i8_readsRule) ∈ gT ∧ Cond.initialized (iy i8_readsRule).cls ∈ gT ∧ ((iy i8_readsRule).cls ≠ "java/lang/invoke/MethodHandle" ∧ (iy i8_readsRule).cls ≠ "java/lang/invoke/VarHandle" ∧ (parseMethodDescriptor (iy i8_readsRule).desc).map (fun d => d.parameters.length) = some 0) := ⟨(gk3 47 rfl rfl), (gk1 6 rfl rfl), nmh_x8.1, nmh_x8.2, pd_26⟩
theorem cb_x8_57 : CB "CallSteps$Reader" 57 i8_readsRule 0 := ⟨(gk3 44 rfl rfl), mb8_readsRule⟩
theorem mv8_readsRule : Cond.instanceMethod (iy i8_readsRule) ∈ gT ∧ Cond.selects (iy i8_readsRule).cls (iy i8_readsRule) (iy i8_readsRule) ∈ gT ∧ vwCl[8]?.map (fun q => q.1) = some (iy i8_readsRule).cls := ⟨(gk3 46 rfl rfl), (gp1 10 rfl), rfl⟩
theorem cv_x8_57 : CVw "CallSteps$Reader" 57 i8_readsRule 0 8 := ⟨cb_x8_57, mv8_readsRule⟩
theorem mb8_readsSign : Cond.code (iy i8_readsSign) (ib i8_readsSign) (iL i8_readsSign) (ir i8_readsSign) ∈ gT ∧ Cond.initialized (iy i8_readsSign).cls ∈ gT ∧ ((iy i8_readsSign).cls ≠ "java/lang/invoke/MethodHandle" ∧ (iy i8_readsSign).cls ≠ "java/lang/invoke/VarHandle" ∧ (parseMethodDescriptor (iy i8_readsSign).desc).map (fun d => d.parameters.length) = some 0) := ⟨(gk3 38 rfl rfl), (gk1 6 rfl rfl), nmh_x8.1, nmh_x8.2, pd_26⟩
theorem cb_x8_52 : CB "CallSteps$Reader" 52 i8_readsSign 0 := ⟨(gk3 35 rfl rfl), mb8_readsSign⟩
theorem mv8_readsSign : Cond.instanceMethod (iy i8_readsSign) ∈ gT ∧ Cond.selects (iy i8_readsSign).cls (iy i8_readsSign) (iy i8_readsSign) ∈ gT ∧ vwCl[8]?.map (fun q => q.1) = some (iy i8_readsSign).cls := ⟨(gk3 37 rfl rfl), (gp1 9 rfl), rfl⟩
theorem cv_x8_52 : CVw "CallSteps$Reader" 52 i8_readsSign 0 8 := ⟨cb_x8_52, mv8_readsSign⟩
theorem mb8_readsState : Cond.code (iy i8_readsState) (ib i8_readsState) (iL i8_readsState) (ir i8_readsState) ∈ gT ∧ Cond.initialized (iy i8_readsState).cls ∈ gT ∧ ((iy i8_readsState).cls ≠ "java/lang/invoke/MethodHandle" ∧ (iy i8_readsState).cls ≠ "java/lang/invoke/VarHandle" ∧ (parseMethodDescriptor (iy i8_readsState).desc).map (fun d => d.parameters.length) = some 0) := ⟨(gk2 224 rfl rfl), (gk1 6 rfl rfl), nmh_x8.1, nmh_x8.2, pd_26⟩
theorem cb_x8_46 : CB "CallSteps$Reader" 46 i8_readsState 0 := ⟨(gk2 221 rfl rfl), mb8_readsState⟩
theorem mv8_readsState : Cond.instanceMethod (iy i8_readsState) ∈ gT ∧ Cond.selects (iy i8_readsState).cls (iy i8_readsState) (iy i8_readsState) ∈ gT ∧ vwCl[8]?.map (fun q => q.1) = some (iy i8_readsState).cls := ⟨(gk2 223 rfl rfl), (gp1 4 rfl), rfl⟩
theorem cv_x8_46 : CVw "CallSteps$Reader" 46 i8_readsState 0 8 := ⟨cb_x8_46, mv8_readsState⟩
theorem mb7_clear : Cond.code (iy i7_clear) (ib i7_clear) (iL i7_clear) (ir i7_clear) ∈ gT ∧ Cond.initialized (iy i7_clear).cls ∈ gT ∧ ((iy i7_clear).cls ≠ "java/lang/invoke/MethodHandle" ∧ (iy i7_clear).cls ≠ "java/lang/invoke/VarHandle" ∧ (parseMethodDescriptor (iy i7_clear).desc).map (fun d => d.parameters.length) = some 0) := ⟨(gk2 215 rfl rfl), (gk1 3 rfl rfl), nmh_x7.1, nmh_x7.2, pd_3⟩
theorem cb_x8_30 : CB "CallSteps$Reader" 30 i7_clear 0 := ⟨(gk2 212 rfl rfl), mb7_clear⟩
theorem mv7_clear : Cond.instanceMethod (iy i7_clear) ∈ gT ∧ Cond.selects (iy i7_clear).cls (iy i7_clear) (iy i7_clear) ∈ gT ∧ vwCl[7]?.map (fun q => q.1) = some (iy i7_clear).cls := ⟨(gk2 213 rfl rfl), (gk2 214 rfl rfl), rfl⟩
theorem cv_x8_30 : CVw "CallSteps$Reader" 30 i7_clear 0 7 := ⟨cb_x8_30, mv7_clear⟩
theorem k_i_m8 : Int32.ofInt (-8) = (-8 : Int32) := by decide +kernel
theorem fp_x9_19 : FP "CallSteps$Tape" 19 9 2 0 false .int := ⟨rfl, RX9, TX9, 7, tyX9, ⟨rfl, by decide, (gk1 38 rfl rfl), ing9⟩, tyX9_ok, nmX9, rfl, rfl, rfl⟩
theorem oi_x9_3 : Cond.methodLink "CallSteps$Tape" 3 objectInit ∈ gT ∧ Cond.instanceMethod objectInit ∈ gT ∧ Cond.code objectInit ⟨#[0xb1]⟩ 1 none ∈ gT := ⟨(gk1 35 rfl rfl), (gk1 28 rfl rfl), (gk1 29 rfl rfl)⟩
theorem fp_x9_9 : FP "CallSteps$Tape" 9 9 0 2 true (.array .int) := ⟨rfl, RX9, TX9, 7, tyX9, ⟨rfl, by decide, (gk1 36 rfl rfl), ing9⟩, tyX9_ok, nmX9, rfl, rfl, rfl⟩
theorem fg_x10_69 : FG "CallSteps$Walk" 69 7 6 0 := ⟨rfl, RX7, TX7, 8, rfl, by decide, (gk1 106 rfl rfl), ing7⟩
theorem fg_x10_14 : FG "CallSteps$Walk" 14 10 0 2 := ⟨rfl, RX10, TX10, 4, rfl, by decide, (gk1 230 rfl rfl), ing10⟩
theorem pd_31 : (parseMethodDescriptor "(ILCallSteps$Place;I)Z").map (fun d => d.parameters.length) = some 3 := by decide +kernel
theorem mb7_applies : Cond.code (iy i7_applies) (ib i7_applies) (iL i7_applies) (ir i7_applies) ∈ gT ∧ Cond.initialized (iy i7_applies).cls ∈ gT ∧ ((iy i7_applies).cls ≠ "java/lang/invoke/MethodHandle" ∧ (iy i7_applies).cls ≠ "java/lang/invoke/VarHandle" ∧ (parseMethodDescriptor (iy i7_applies).desc).map (fun d => d.parameters.length) = some 3) := ⟨(gk3 216 rfl rfl), (gk1 3 rfl rfl), nmh_x7.1, nmh_x7.2, pd_31⟩
theorem cb_x10_72 : CB "CallSteps$Walk" 72 i7_applies 3 := ⟨(gk4 131 rfl rfl), mb7_applies⟩
theorem mv7_applies : Cond.instanceMethod (iy i7_applies) ∈ gT ∧ Cond.selects (iy i7_applies).cls (iy i7_applies) (iy i7_applies) ∈ gT ∧ vwCl[7]?.map (fun q => q.1) = some (iy i7_applies).cls := ⟨(gk3 214 rfl rfl), (gk3 215 rfl rfl), rfl⟩
theorem cv_x10_72 : CVw "CallSteps$Walk" 72 i7_applies 3 7 := ⟨cb_x10_72, mv7_applies⟩
theorem cb_x10_55 : CB "CallSteps$Walk" 55 i7_ofRule 2 := ⟨(gk4 132 rfl rfl), mb7_ofRule⟩
theorem cv_x10_55 : CVw "CallSteps$Walk" 55 i7_ofRule 2 7 := ⟨cb_x10_55, mv7_ofRule⟩
theorem pd_32 : (parseMethodDescriptor "(LCallSteps$Place;LCallSteps$Program;I)J").map (fun d => d.parameters.length) = some 3 := by decide +kernel
theorem mb1_behind : Cond.code (iy i1_behind) (ib i1_behind) (iL i1_behind) (ir i1_behind) ∈ gT ∧ Cond.initialized (iy i1_behind).cls ∈ gT ∧ ((iy i1_behind).cls ≠ "java/lang/invoke/MethodHandle" ∧ (iy i1_behind).cls ≠ "java/lang/invoke/VarHandle" ∧ (parseMethodDescriptor (iy i1_behind).desc).map (fun d => d.parameters.length) = some 3) := ⟨(gk4 136 rfl rfl), (gk1 9 rfl rfl), nmh_x1.1, nmh_x1.2, pd_32⟩
theorem cb_x10_76 : CB "CallSteps$Walk" 76 i1_behind 3 := ⟨(gk4 133 rfl rfl), mb1_behind⟩
theorem mv1_behind : Cond.instanceMethod (iy i1_behind) ∈ gT ∧ Cond.selects (iy i1_behind).cls (iy i1_behind) (iy i1_behind) ∈ gT ∧ vwCl[1]?.map (fun q => q.1) = some (iy i1_behind).cls := ⟨(gk4 134 rfl rfl), (gk4 135 rfl rfl), rfl⟩
theorem cv_x10_76 : CVw "CallSteps$Walk" 76 i1_behind 3 1 := ⟨cb_x10_76, mv1_behind⟩
theorem cb_x10_80 : CB "CallSteps$Walk" 80 i4_sum 2 := ⟨(gk4 137 rfl rfl), mb4_sum⟩
theorem cs_x10_80 : CSw "CallSteps$Walk" 80 i4_sum 2 := ⟨cb_x10_80, (gk4 85 rfl rfl)⟩
theorem fg_x10_86 : FG "CallSteps$Walk" 86 6 3 0 := ⟨rfl, RX6, TX6, 4, rfl, by decide, (gk1 172 rfl rfl), ing6⟩
theorem cb_x10_92 : CB "CallSteps$Walk" 92 i6_signAt 1 := ⟨(gk4 144 rfl rfl), mb6_signAt⟩
theorem cv_x10_92 : CVw "CallSteps$Walk" 92 i6_signAt 1 6 := ⟨cb_x10_92, mv6_signAt⟩
theorem cb_x10_95 : CB "CallSteps$Walk" 95 i1_layRow 2 := ⟨(gk4 145 rfl rfl), mb1_layRow⟩
theorem cv_x10_95 : CVw "CallSteps$Walk" 95 i1_layRow 2 1 := ⟨cb_x10_95, mv1_layRow⟩
theorem mb6_stepBy : Cond.code (iy i6_stepBy) (ib i6_stepBy) (iL i6_stepBy) (ir i6_stepBy) ∈ gT ∧ Cond.initialized (iy i6_stepBy).cls ∈ gT ∧ ((iy i6_stepBy).cls ≠ "java/lang/invoke/MethodHandle" ∧ (iy i6_stepBy).cls ≠ "java/lang/invoke/VarHandle" ∧ (parseMethodDescriptor (iy i6_stepBy).desc).map (fun d => d.parameters.length) = some 2) := ⟨(gk3 234 rfl rfl), (gk1 7 rfl rfl), nmh_x6.1, nmh_x6.2, pd_17⟩
theorem cb_x10_89 : CB "CallSteps$Walk" 89 i6_stepBy 2 := ⟨(gk4 143 rfl rfl), mb6_stepBy⟩
theorem mv6_stepBy : Cond.instanceMethod (iy i6_stepBy) ∈ gT ∧ Cond.selects (iy i6_stepBy).cls (iy i6_stepBy) (iy i6_stepBy) ∈ gT ∧ vwCl[6]?.map (fun q => q.1) = some (iy i6_stepBy).cls := ⟨(gk3 232 rfl rfl), (gk3 233 rfl rfl), rfl⟩
theorem cv_x10_89 : CVw "CallSteps$Walk" 89 i6_stepBy 2 6 := ⟨cb_x10_89, mv6_stepBy⟩
theorem fg_x10_31 : FG "CallSteps$Walk" 31 10 3 0 := ⟨rfl, RX10, TX10, 4, rfl, by decide, (gk1 234 rfl rfl), ing10⟩
theorem fp_x10_31 : FP "CallSteps$Walk" 31 10 3 0 false .boolean := ⟨rfl, RX10, TX10, 4, tyX10, ⟨rfl, by decide, (gk1 234 rfl rfl), ing10⟩, tyX10_ok, nmX10, rfl, rfl, rfl⟩
theorem fg_x10_27 : FG "CallSteps$Walk" 27 10 2 0 := ⟨rfl, RX10, TX10, 4, rfl, by decide, (gk1 232 rfl rfl), ing10⟩
theorem k_b_100 : (Int8.ofInt (100)).toInt32 = (100 : Int32) := by decide +kernel
theorem nmh_x10 : "CallSteps$Walk" ≠ "java/lang/invoke/MethodHandle" ∧ "CallSteps$Walk" ≠ "java/lang/invoke/VarHandle" := by decide +kernel
theorem pd_33 : (parseMethodDescriptor "(LCallSteps$Costs;LCallSteps$Program;IJ)I").map (fun d => d.parameters.length) = some 4 := by decide +kernel
theorem mb10_leastRule : Cond.code (iy i10_leastRule) (ib i10_leastRule) (iL i10_leastRule) (ir i10_leastRule) ∈ gT ∧ Cond.initialized (iy i10_leastRule).cls ∈ gT ∧ ((iy i10_leastRule).cls ≠ "java/lang/invoke/MethodHandle" ∧ (iy i10_leastRule).cls ≠ "java/lang/invoke/VarHandle" ∧ (parseMethodDescriptor (iy i10_leastRule).desc).map (fun d => d.parameters.length) = some 4) := ⟨(gk4 130 rfl rfl), (gk1 10 rfl rfl), nmh_x10.1, nmh_x10.2, pd_33⟩
theorem cb_x10_51 : CB "CallSteps$Walk" 51 i10_leastRule 4 := ⟨(gk4 127 rfl rfl), mb10_leastRule⟩
theorem mv10_leastRule : Cond.instanceMethod (iy i10_leastRule) ∈ gT ∧ Cond.selects (iy i10_leastRule).cls (iy i10_leastRule) (iy i10_leastRule) ∈ gT ∧ vwCl[10]?.map (fun q => q.1) = some (iy i10_leastRule).cls := ⟨(gk4 129 rfl rfl), (gp2 15 rfl), rfl⟩
theorem cv_x10_51 : CVw "CallSteps$Walk" 51 i10_leastRule 4 10 := ⟨cb_x10_51, mv10_leastRule⟩
theorem fg_x10_23 : FG "CallSteps$Walk" 23 10 1 2 := ⟨rfl, RX10, TX10, 4, rfl, by decide, (gk1 231 rfl rfl), ing10⟩
theorem cb_x10_61 : CB "CallSteps$Walk" 61 i3_set 2 := ⟨(gk4 138 rfl rfl), mb3_set⟩
theorem cv_x10_61 : CVw "CallSteps$Walk" 61 i3_set 2 3 := ⟨cb_x10_61, mv3_set⟩
theorem fp_x10_27 : FP "CallSteps$Walk" 27 10 2 0 false .int := ⟨rfl, RX10, TX10, 4, tyX10, ⟨rfl, by decide, (gk1 232 rfl rfl), ing10⟩, tyX10_ok, nmX10, rfl, rfl, rfl⟩
theorem pd_34 : (parseMethodDescriptor "(LCallSteps$Costs;LCallSteps$Program;I)V").map (fun d => d.parameters.length) = some 3 := by decide +kernel
theorem mb10_stepBy : Cond.code (iy i10_stepBy) (ib i10_stepBy) (iL i10_stepBy) (ir i10_stepBy) ∈ gT ∧ Cond.initialized (iy i10_stepBy).cls ∈ gT ∧ ((iy i10_stepBy).cls ≠ "java/lang/invoke/MethodHandle" ∧ (iy i10_stepBy).cls ≠ "java/lang/invoke/VarHandle" ∧ (parseMethodDescriptor (iy i10_stepBy).desc).map (fun d => d.parameters.length) = some 3) := ⟨(gk4 142 rfl rfl), (gk1 10 rfl rfl), nmh_x10.1, nmh_x10.2, pd_34⟩
theorem cb_x10_65 : CB "CallSteps$Walk" 65 i10_stepBy 3 := ⟨(gk4 139 rfl rfl), mb10_stepBy⟩
theorem mv10_stepBy : Cond.instanceMethod (iy i10_stepBy) ∈ gT ∧ Cond.selects (iy i10_stepBy).cls (iy i10_stepBy) (iy i10_stepBy) ∈ gT ∧ vwCl[10]?.map (fun q => q.1) = some (iy i10_stepBy).cls := ⟨(gk4 141 rfl rfl), (gp3 0 rfl), rfl⟩
theorem cv_x10_65 : CVw "CallSteps$Walk" 65 i10_stepBy 3 10 := ⟨cb_x10_65, mv10_stepBy⟩
theorem pd_35 : (parseMethodDescriptor "(LCallSteps$Place;)V").map (fun d => d.parameters.length) = some 1 := by decide +kernel
theorem mb6_become : Cond.code (iy i6_become) (ib i6_become) (iL i6_become) (ir i6_become) ∈ gT ∧ Cond.initialized (iy i6_become).cls ∈ gT ∧ ((iy i6_become).cls ≠ "java/lang/invoke/MethodHandle" ∧ (iy i6_become).cls ≠ "java/lang/invoke/VarHandle" ∧ (parseMethodDescriptor (iy i6_become).desc).map (fun d => d.parameters.length) = some 1) := ⟨(gk3 179 rfl rfl), (gk1 7 rfl rfl), nmh_x6.1, nmh_x6.2, pd_35⟩
theorem cb_x10_39 : CB "CallSteps$Walk" 39 i6_become 1 := ⟨(gk4 124 rfl rfl), mb6_become⟩
theorem mv6_become : Cond.instanceMethod (iy i6_become) ∈ gT ∧ Cond.selects (iy i6_become).cls (iy i6_become) (iy i6_become) ∈ gT ∧ vwCl[6]?.map (fun q => q.1) = some (iy i6_become).cls := ⟨(gk3 177 rfl rfl), (gk3 178 rfl rfl), rfl⟩
theorem cv_x10_39 : CVw "CallSteps$Walk" 39 i6_become 1 6 := ⟨cb_x10_39, mv6_become⟩
theorem pd_36 : (parseMethodDescriptor "(LCallSteps$Place;)J").map (fun d => d.parameters.length) = some 1 := by decide +kernel
theorem mb1_of : Cond.code (iy i1_of) (ib i1_of) (iL i1_of) (ir i1_of) ∈ gT ∧ Cond.initialized (iy i1_of).cls ∈ gT ∧ ((iy i1_of).cls ≠ "java/lang/invoke/MethodHandle" ∧ (iy i1_of).cls ≠ "java/lang/invoke/VarHandle" ∧ (parseMethodDescriptor (iy i1_of).desc).map (fun d => d.parameters.length) = some 1) := ⟨(gk4 95 rfl rfl), (gk1 9 rfl rfl), nmh_x1.1, nmh_x1.2, pd_36⟩
theorem cb_x10_43 : CB "CallSteps$Walk" 43 i1_of 1 := ⟨(gk4 125 rfl rfl), mb1_of⟩
theorem mv1_of : Cond.instanceMethod (iy i1_of) ∈ gT ∧ Cond.selects (iy i1_of).cls (iy i1_of) (iy i1_of) ∈ gT ∧ vwCl[1]?.map (fun q => q.1) = some (iy i1_of).cls := ⟨(gk4 93 rfl rfl), (gk4 94 rfl rfl), rfl⟩
theorem cv_x10_43 : CVw "CallSteps$Walk" 43 i1_of 1 1 := ⟨cb_x10_43, mv1_of⟩
theorem kc_x10_49 : Cond.constantLong "CallSteps$Walk" 49 (9900 : Int64) ∈ gT := (gk4 126 rfl rfl)
theorem oi_x10_3 : Cond.methodLink "CallSteps$Walk" 3 objectInit ∈ gT ∧ Cond.instanceMethod objectInit ∈ gT ∧ Cond.code objectInit ⟨#[0xb1]⟩ 1 none ∈ gT := ⟨(gk1 225 rfl rfl), (gk1 28 rfl rfl), (gk1 29 rfl rfl)⟩
theorem nc_x10_9 : NC "CallSteps$Walk" 9 6 4 := ⟨RX6, TX6, tyX6, rfl, (gk1 226 rfl rfl), (gk1 154 rfl rfl), (gk1 7 rfl rfl), ing6, tyX6_ok, by decide +kernel⟩
theorem k_s_140 : (Int16.ofInt (140)).toInt32 = (140 : Int32) := by decide +kernel
theorem mb6_init : Cond.code (iy i6_init) (ib i6_init) (iL i6_init) (ir i6_init) ∈ gT ∧ Cond.initialized (iy i6_init).cls ∈ gT ∧ ((iy i6_init).cls ≠ "java/lang/invoke/MethodHandle" ∧ (iy i6_init).cls ≠ "java/lang/invoke/VarHandle" ∧ (parseMethodDescriptor (iy i6_init).desc).map (fun d => d.parameters.length) = some 1) := ⟨(gk1 157 rfl rfl), (gk1 7 rfl rfl), nmh_x6.1, nmh_x6.2, pd_0⟩
theorem cb_x10_11 : CB "CallSteps$Walk" 11 i6_init 1 := ⟨(gk1 227 rfl rfl), mb6_init⟩
theorem ci_x10_11 : CIw "CallSteps$Walk" 11 i6_init 1 := ⟨cb_x10_11, rfl, (gk1 156 rfl rfl), rfl⟩
theorem fp_x10_14 : FP "CallSteps$Walk" 14 10 0 2 true (.object "CallSteps$Place") := ⟨rfl, RX10, TX10, 4, tyX10, ⟨rfl, by decide, (gk1 230 rfl rfl), ing10⟩, tyX10_ok, nmX10, rfl, rfl, rfl⟩
theorem nc_x10_20 : NC "CallSteps$Walk" 20 3 1 := ⟨RX3, TX3, tyX3, rfl, (gk1 228 rfl rfl), (gk1 82 rfl rfl), (gk1 5 rfl rfl), ing3, tyX3_ok, by decide +kernel⟩
theorem cb_x10_22 : CB "CallSteps$Walk" 22 i3_init 1 := ⟨(gk1 229 rfl rfl), mb3_init⟩
theorem ci_x10_22 : CIw "CallSteps$Walk" 22 i3_init 1 := ⟨cb_x10_22, rfl, (gk1 84 rfl rfl), rfl⟩
theorem fp_x10_23 : FP "CallSteps$Walk" 23 10 1 2 true (.object "CallSteps$Ints") := ⟨rfl, RX10, TX10, 4, tyX10, ⟨rfl, by decide, (gk1 231 rfl rfl), ing10⟩, tyX10_ok, nmX10, rfl, rfl, rfl⟩
theorem cb_x10_35 : CB "CallSteps$Walk" 35 i3_get 1 := ⟨(gk4 150 rfl rfl), mb3_get⟩
theorem cv_x10_35 : CVw "CallSteps$Walk" 35 i3_get 1 3 := ⟨cb_x10_35, mv3_get⟩
theorem fg_x11_19 : FG "CallSteps" 19 11 10 2 := ⟨rfl, RX11, TX11, 15, rfl, by decide, (gk2 119 rfl rfl), ing11⟩
theorem fg_x11_127 : FG "CallSteps" 127 7 4 0 := ⟨rfl, RX7, TX7, 8, rfl, by decide, (gk1 97 rfl rfl), ing7⟩
theorem fg_x11_130 : FG "CallSteps" 130 7 5 0 := ⟨rfl, RX7, TX7, 8, rfl, by decide, (gk1 103 rfl rfl), ing7⟩
theorem fg_x11_118 : FG "CallSteps" 118 7 6 0 := ⟨rfl, RX7, TX7, 8, rfl, by decide, (gk1 107 rfl rfl), ing7⟩
theorem fg_x11_133 : FG "CallSteps" 133 7 7 0 := ⟨rfl, RX7, TX7, 8, rfl, by decide, (gk1 113 rfl rfl), ing7⟩
theorem fg_x11_87 : FG "CallSteps" 87 11 12 0 := ⟨rfl, RX11, TX11, 15, rfl, by decide, (gk2 121 rfl rfl), ing11⟩
theorem fg_x11_50 : FG "CallSteps" 50 11 4 2 := ⟨rfl, RX11, TX11, 15, rfl, by decide, (gk2 113 rfl rfl), ing11⟩
theorem fg_x11_136 : FG "CallSteps" 136 0 2 0 := ⟨rfl, RX0, TX0, 3, rfl, by decide, (gk1 197 rfl rfl), ing0⟩
theorem fg_x11_12 : FG "CallSteps" 12 11 0 2 := ⟨rfl, RX11, TX11, 15, rfl, by decide, (gk2 109 rfl rfl), ing11⟩
theorem fg_x11_98 : FG "CallSteps" 98 9 2 0 := ⟨rfl, RX9, TX9, 7, rfl, by decide, (gk1 39 rfl rfl), ing9⟩
theorem fg_x11_31 : FG "CallSteps" 31 11 1 2 := ⟨rfl, RX11, TX11, 15, rfl, by decide, (gk2 110 rfl rfl), ing11⟩
theorem fg_x11_44 : FG "CallSteps" 44 11 3 2 := ⟨rfl, RX11, TX11, 15, rfl, by decide, (gk2 112 rfl rfl), ing11⟩
theorem pd_37 : (parseMethodDescriptor "(LCallSteps$Program;LCallSteps$Place;)Z").map (fun d => d.parameters.length) = some 2 := by decide +kernel
theorem mb8_readsPlace : Cond.code (iy i8_readsPlace) (ib i8_readsPlace) (iL i8_readsPlace) (ir i8_readsPlace) ∈ gT ∧ Cond.initialized (iy i8_readsPlace).cls ∈ gT ∧ ((iy i8_readsPlace).cls ≠ "java/lang/invoke/MethodHandle" ∧ (iy i8_readsPlace).cls ≠ "java/lang/invoke/VarHandle" ∧ (parseMethodDescriptor (iy i8_readsPlace).desc).map (fun d => d.parameters.length) = some 2) := ⟨(gk3 151 rfl rfl), (gk1 6 rfl rfl), nmh_x8.1, nmh_x8.2, pd_37⟩
theorem cb_x11_153 : CB "CallSteps" 153 i8_readsPlace 2 := ⟨(gk3 148 rfl rfl), mb8_readsPlace⟩
theorem mv8_readsPlace : Cond.instanceMethod (iy i8_readsPlace) ∈ gT ∧ Cond.selects (iy i8_readsPlace).cls (iy i8_readsPlace) (iy i8_readsPlace) ∈ gT ∧ vwCl[8]?.map (fun q => q.1) = some (iy i8_readsPlace).cls := ⟨(gk3 149 rfl rfl), (gk3 150 rfl rfl), rfl⟩
theorem cv_x11_153 : CVw "CallSteps" 153 i8_readsPlace 2 8 := ⟨cb_x11_153, mv8_readsPlace⟩
theorem mb9_cut : Cond.code (iy i9_cut) (ib i9_cut) (iL i9_cut) (ir i9_cut) ∈ gT ∧ Cond.initialized (iy i9_cut).cls ∈ gT ∧ ((iy i9_cut).cls ≠ "java/lang/invoke/MethodHandle" ∧ (iy i9_cut).cls ≠ "java/lang/invoke/VarHandle" ∧ (parseMethodDescriptor (iy i9_cut).desc).map (fun d => d.parameters.length) = some 1) := ⟨(gk2 170 rfl rfl), (gk1 2 rfl rfl), nmh_x9.1, nmh_x9.2, pd_0⟩
theorem cb_x11_104 : CB "CallSteps" 104 i9_cut 1 := ⟨(gk2 167 rfl rfl), mb9_cut⟩
theorem mv9_cut : Cond.instanceMethod (iy i9_cut) ∈ gT ∧ Cond.selects (iy i9_cut).cls (iy i9_cut) (iy i9_cut) ∈ gT ∧ vwCl[9]?.map (fun q => q.1) = some (iy i9_cut).cls := ⟨(gk2 168 rfl rfl), (gk2 169 rfl rfl), rfl⟩
theorem cv_x11_104 : CVw "CallSteps" 104 i9_cut 1 9 := ⟨cb_x11_104, mv9_cut⟩
theorem fg_x11_40 : FG "CallSteps" 40 11 2 2 := ⟨rfl, RX11, TX11, 15, rfl, by decide, (gk2 111 rfl rfl), ing11⟩
theorem pd_38 : (parseMethodDescriptor "(LCallSteps$Place;I)V").map (fun d => d.parameters.length) = some 2 := by decide +kernel
theorem mb0_keep : Cond.code (iy i0_keep) (ib i0_keep) (iL i0_keep) (ir i0_keep) ∈ gT ∧ Cond.initialized (iy i0_keep).cls ∈ gT ∧ ((iy i0_keep).cls ≠ "java/lang/invoke/MethodHandle" ∧ (iy i0_keep).cls ≠ "java/lang/invoke/VarHandle" ∧ (parseMethodDescriptor (iy i0_keep).desc).map (fun d => d.parameters.length) = some 2) := ⟨(gk3 166 rfl rfl), (gk1 8 rfl rfl), nmh_x0.1, nmh_x0.2, pd_38⟩
theorem cb_x11_157 : CB "CallSteps" 157 i0_keep 2 := ⟨(gk3 163 rfl rfl), mb0_keep⟩
theorem mv0_keep : Cond.instanceMethod (iy i0_keep) ∈ gT ∧ Cond.selects (iy i0_keep).cls (iy i0_keep) (iy i0_keep) ∈ gT ∧ vwCl[0]?.map (fun q => q.1) = some (iy i0_keep).cls := ⟨(gk3 164 rfl rfl), (gk3 165 rfl rfl), rfl⟩
theorem cv_x11_157 : CVw "CallSteps" 157 i0_keep 2 0 := ⟨cb_x11_157, mv0_keep⟩
theorem cb_x11_161 : CB "CallSteps" 161 i6_become 1 := ⟨(gk3 176 rfl rfl), mb6_become⟩
theorem cv_x11_161 : CVw "CallSteps" 161 i6_become 1 6 := ⟨cb_x11_161, mv6_become⟩
theorem fg_x11_165 : FG "CallSteps" 165 6 3 0 := ⟨rfl, RX6, TX6, 4, rfl, by decide, (gk1 173 rfl rfl), ing6⟩
theorem cb_x11_341 : CB "CallSteps" 341 i7_applies 3 := ⟨(gk3 213 rfl rfl), mb7_applies⟩
theorem cv_x11_341 : CVw "CallSteps" 341 i7_applies 3 7 := ⟨cb_x11_341, mv7_applies⟩
theorem cb_x11_146 : CB "CallSteps" 146 i7_ofRule 2 := ⟨(gk3 128 rfl rfl), mb7_ofRule⟩
theorem cv_x11_146 : CVw "CallSteps" 146 i7_ofRule 2 7 := ⟨cb_x11_146, mv7_ofRule⟩
theorem nmh_x11 : "CallSteps" ≠ "java/lang/invoke/MethodHandle" ∧ "CallSteps" ≠ "java/lang/invoke/VarHandle" := by decide +kernel
theorem mb11_canStep : Cond.code (iy i11_canStep) (ib i11_canStep) (iL i11_canStep) (ir i11_canStep) ∈ gT ∧ Cond.initialized (iy i11_canStep).cls ∈ gT ∧ ((iy i11_canStep).cls ≠ "java/lang/invoke/MethodHandle" ∧ (iy i11_canStep).cls ≠ "java/lang/invoke/VarHandle" ∧ (parseMethodDescriptor (iy i11_canStep).desc).map (fun d => d.parameters.length) = some 1) := ⟨(gk3 212 rfl rfl), (gk1 1 rfl rfl), nmh_x11.1, nmh_x11.2, pd_12⟩
theorem cb_x11_182 : CB "CallSteps" 182 i11_canStep 1 := ⟨(gk3 209 rfl rfl), mb11_canStep⟩
theorem mv11_canStep : Cond.instanceMethod (iy i11_canStep) ∈ gT ∧ Cond.selects (iy i11_canStep).cls (iy i11_canStep) (iy i11_canStep) ∈ gT ∧ vwCl[11]?.map (fun q => q.1) = some (iy i11_canStep).cls := ⟨(gk3 211 rfl rfl), (gp2 7 rfl), rfl⟩
theorem cv_x11_182 : CVw "CallSteps" 182 i11_canStep 1 11 := ⟨cb_x11_182, mv11_canStep⟩
theorem kc_x11_216 : Cond.constantLong "CallSteps" 216 (1000000000000001 : Int64) ∈ gT := (gk4 115 rfl rfl)
theorem kc_x11_206 : Cond.constantLong "CallSteps" 206 (-1 : Int64) ∈ gT := (gk4 26 rfl rfl)
theorem fg_x11_61 : FG "CallSteps" 61 11 6 2 := ⟨rfl, RX11, TX11, 15, rfl, by decide, (gk2 115 rfl rfl), ing11⟩
theorem mb1_saturate : Cond.code (iy i1_saturate) (ib i1_saturate) (iL i1_saturate) (ir i1_saturate) ∈ gT ∧ Cond.initialized (iy i1_saturate).cls ∈ gT ∧ ((iy i1_saturate).cls ≠ "java/lang/invoke/MethodHandle" ∧ (iy i1_saturate).cls ≠ "java/lang/invoke/VarHandle" ∧ (parseMethodDescriptor (iy i1_saturate).desc).map (fun d => d.parameters.length) = some 2) := ⟨(gk4 73 rfl rfl), (gk1 9 rfl rfl), nmh_x1.1, nmh_x1.2, pd_17⟩
theorem cb_x11_257 : CB "CallSteps" 257 i1_saturate 2 := ⟨(gk4 70 rfl rfl), mb1_saturate⟩
theorem mv1_saturate : Cond.instanceMethod (iy i1_saturate) ∈ gT ∧ Cond.selects (iy i1_saturate).cls (iy i1_saturate) (iy i1_saturate) ∈ gT ∧ vwCl[1]?.map (fun q => q.1) = some (iy i1_saturate).cls := ⟨(gk4 71 rfl rfl), (gk4 72 rfl rfl), rfl⟩
theorem cv_x11_257 : CVw "CallSteps" 257 i1_saturate 2 1 := ⟨cb_x11_257, mv1_saturate⟩
theorem cb_x11_260 : CB "CallSteps" 260 i1_of 1 := ⟨(gk4 92 rfl rfl), mb1_of⟩
theorem cv_x11_260 : CVw "CallSteps" 260 i1_of 1 1 := ⟨cb_x11_260, mv1_of⟩
theorem pd_39 : (parseMethodDescriptor "(J)J").map (fun d => d.parameters.length) = some 1 := by decide +kernel
theorem mb11_told : Cond.code (iy i11_told) (ib i11_told) (iL i11_told) (ir i11_told) ∈ gT ∧ Cond.initialized (iy i11_told).cls ∈ gT ∧ ((iy i11_told).cls ≠ "java/lang/invoke/MethodHandle" ∧ (iy i11_told).cls ≠ "java/lang/invoke/VarHandle" ∧ (parseMethodDescriptor (iy i11_told).desc).map (fun d => d.parameters.length) = some 1) := ⟨(gk4 114 rfl rfl), (gk1 1 rfl rfl), nmh_x11.1, nmh_x11.2, pd_39⟩
theorem cb_x11_212 : CB "CallSteps" 212 i11_told 1 := ⟨(gk4 112 rfl rfl), mb11_told⟩
theorem cs_x11_212 : CSw "CallSteps" 212 i11_told 1 := ⟨cb_x11_212, (gk4 113 rfl rfl)⟩
theorem mb6_isNone : Cond.code (iy i6_isNone) (ib i6_isNone) (iL i6_isNone) (ir i6_isNone) ∈ gT ∧ Cond.initialized (iy i6_isNone).cls ∈ gT ∧ ((iy i6_isNone).cls ≠ "java/lang/invoke/MethodHandle" ∧ (iy i6_isNone).cls ≠ "java/lang/invoke/VarHandle" ∧ (parseMethodDescriptor (iy i6_isNone).desc).map (fun d => d.parameters.length) = some 0) := ⟨(gk3 190 rfl rfl), (gk1 7 rfl rfl), nmh_x6.1, nmh_x6.2, pd_26⟩
theorem cb_x11_168 : CB "CallSteps" 168 i6_isNone 0 := ⟨(gk3 187 rfl rfl), mb6_isNone⟩
theorem mv6_isNone : Cond.instanceMethod (iy i6_isNone) ∈ gT ∧ Cond.selects (iy i6_isNone).cls (iy i6_isNone) (iy i6_isNone) ∈ gT ∧ vwCl[6]?.map (fun q => q.1) = some (iy i6_isNone).cls := ⟨(gk3 188 rfl rfl), (gk3 189 rfl rfl), rfl⟩
theorem cv_x11_168 : CVw "CallSteps" 168 i6_isNone 0 6 := ⟨cb_x11_168, mv6_isNone⟩
theorem cb_x11_264 : CB "CallSteps" 264 i1_start 1 := ⟨(gk4 168 rfl rfl), mb1_start⟩
theorem cv_x11_264 : CVw "CallSteps" 264 i1_start 1 1 := ⟨cb_x11_264, mv1_start⟩
theorem cb_x11_267 : CB "CallSteps" 267 i1_aimAtNothing 1 := ⟨(gk4 169 rfl rfl), mb1_aimAtNothing⟩
theorem cv_x11_267 : CVw "CallSteps" 267 i1_aimAtNothing 1 1 := ⟨cb_x11_267, mv1_aimAtNothing⟩
theorem cb_x11_270 : CB "CallSteps" 270 i1_aimAtHead 2 := ⟨(gk4 170 rfl rfl), mb1_aimAtHead⟩
theorem cv_x11_270 : CVw "CallSteps" 270 i1_aimAtHead 2 1 := ⟨cb_x11_270, mv1_aimAtHead⟩
theorem mb7_hasState : Cond.code (iy i7_hasState) (ib i7_hasState) (iL i7_hasState) (ir i7_hasState) ∈ gT ∧ Cond.initialized (iy i7_hasState).cls ∈ gT ∧ ((iy i7_hasState).cls ≠ "java/lang/invoke/MethodHandle" ∧ (iy i7_hasState).cls ≠ "java/lang/invoke/VarHandle" ∧ (parseMethodDescriptor (iy i7_hasState).desc).map (fun d => d.parameters.length) = some 1) := ⟨(gk4 163 rfl rfl), (gk1 3 rfl rfl), nmh_x7.1, nmh_x7.2, pd_12⟩
theorem cb_x11_231 : CB "CallSteps" 231 i7_hasState 1 := ⟨(gk4 160 rfl rfl), mb7_hasState⟩
theorem mv7_hasState : Cond.instanceMethod (iy i7_hasState) ∈ gT ∧ Cond.selects (iy i7_hasState).cls (iy i7_hasState) (iy i7_hasState) ∈ gT ∧ vwCl[7]?.map (fun q => q.1) = some (iy i7_hasState).cls := ⟨(gk4 161 rfl rfl), (gk4 162 rfl rfl), rfl⟩
theorem cv_x11_231 : CVw "CallSteps" 231 i7_hasState 1 7 := ⟨cb_x11_231, mv7_hasState⟩
theorem mb7_hasSign : Cond.code (iy i7_hasSign) (ib i7_hasSign) (iL i7_hasSign) (ir i7_hasSign) ∈ gT ∧ Cond.initialized (iy i7_hasSign).cls ∈ gT ∧ ((iy i7_hasSign).cls ≠ "java/lang/invoke/MethodHandle" ∧ (iy i7_hasSign).cls ≠ "java/lang/invoke/VarHandle" ∧ (parseMethodDescriptor (iy i7_hasSign).desc).map (fun d => d.parameters.length) = some 1) := ⟨(gk4 167 rfl rfl), (gk1 3 rfl rfl), nmh_x7.1, nmh_x7.2, pd_12⟩
theorem cb_x11_234 : CB "CallSteps" 234 i7_hasSign 1 := ⟨(gk4 164 rfl rfl), mb7_hasSign⟩
theorem mv7_hasSign : Cond.instanceMethod (iy i7_hasSign) ∈ gT ∧ Cond.selects (iy i7_hasSign).cls (iy i7_hasSign) (iy i7_hasSign) ∈ gT ∧ vwCl[7]?.map (fun q => q.1) = some (iy i7_hasSign).cls := ⟨(gk4 165 rfl rfl), (gk4 166 rfl rfl), rfl⟩
theorem cv_x11_234 : CVw "CallSteps" 234 i7_hasSign 1 7 := ⟨cb_x11_234, mv7_hasSign⟩
theorem fg_x11_91 : FG "CallSteps" 91 11 13 0 := ⟨rfl, RX11, TX11, 15, rfl, by decide, (gk2 122 rfl rfl), ing11⟩
theorem fg_x11_57 : FG "CallSteps" 57 11 5 2 := ⟨rfl, RX11, TX11, 15, rfl, by decide, (gk2 114 rfl rfl), ing11⟩
theorem mb1_startForGoals : Cond.code (iy i1_startForGoals) (ib i1_startForGoals) (iL i1_startForGoals) (ir i1_startForGoals) ∈ gT ∧ Cond.initialized (iy i1_startForGoals).cls ∈ gT ∧ ((iy i1_startForGoals).cls ≠ "java/lang/invoke/MethodHandle" ∧ (iy i1_startForGoals).cls ≠ "java/lang/invoke/VarHandle" ∧ (parseMethodDescriptor (iy i1_startForGoals).desc).map (fun d => d.parameters.length) = some 1) := ⟨(gk4 38 rfl rfl), (gk1 9 rfl rfl), nmh_x1.1, nmh_x1.2, pd_30⟩
theorem cb_x11_253 : CB "CallSteps" 253 i1_startForGoals 1 := ⟨(gk4 35 rfl rfl), mb1_startForGoals⟩
theorem mv1_startForGoals : Cond.instanceMethod (iy i1_startForGoals) ∈ gT ∧ Cond.selects (iy i1_startForGoals).cls (iy i1_startForGoals) (iy i1_startForGoals) ∈ gT ∧ vwCl[1]?.map (fun q => q.1) = some (iy i1_startForGoals).cls := ⟨(gk4 36 rfl rfl), (gk4 37 rfl rfl), rfl⟩
theorem cv_x11_253 : CVw "CallSteps" 253 i1_startForGoals 1 1 := ⟨cb_x11_253, mv1_startForGoals⟩
theorem fp_x11_91 : FP "CallSteps" 91 11 13 0 false .boolean := ⟨rfl, RX11, TX11, 15, tyX11, ⟨rfl, by decide, (gk2 122 rfl rfl), ing11⟩, tyX11_ok, nmX11, rfl, rfl, rfl⟩
theorem mb11_settleCosts : Cond.code (iy i11_settleCosts) (ib i11_settleCosts) (iL i11_settleCosts) (ir i11_settleCosts) ∈ gT ∧ Cond.initialized (iy i11_settleCosts).cls ∈ gT ∧ ((iy i11_settleCosts).cls ≠ "java/lang/invoke/MethodHandle" ∧ (iy i11_settleCosts).cls ≠ "java/lang/invoke/VarHandle" ∧ (parseMethodDescriptor (iy i11_settleCosts).desc).map (fun d => d.parameters.length) = some 0) := ⟨(gk4 34 rfl rfl), (gk1 1 rfl rfl), nmh_x11.1, nmh_x11.2, pd_3⟩
theorem cb_x11_244 : CB "CallSteps" 244 i11_settleCosts 0 := ⟨(gk4 31 rfl rfl), mb11_settleCosts⟩
theorem mv11_settleCosts : Cond.instanceMethod (iy i11_settleCosts) ∈ gT ∧ Cond.selects (iy i11_settleCosts).cls (iy i11_settleCosts) (iy i11_settleCosts) ∈ gT ∧ vwCl[11]?.map (fun q => q.1) = some (iy i11_settleCosts).cls := ⟨(gk4 33 rfl rfl), (gp2 9 rfl), rfl⟩
theorem cv_x11_244 : CVw "CallSteps" 244 i11_settleCosts 0 11 := ⟨cb_x11_244, mv11_settleCosts⟩
theorem pd_40 : (parseMethodDescriptor "()J").map (fun d => d.parameters.length) = some 0 := by decide +kernel
theorem mb11_costOfNow : Cond.code (iy i11_costOfNow) (ib i11_costOfNow) (iL i11_costOfNow) (ir i11_costOfNow) ∈ gT ∧ Cond.initialized (iy i11_costOfNow).cls ∈ gT ∧ ((iy i11_costOfNow).cls ≠ "java/lang/invoke/MethodHandle" ∧ (iy i11_costOfNow).cls ≠ "java/lang/invoke/VarHandle" ∧ (parseMethodDescriptor (iy i11_costOfNow).desc).map (fun d => d.parameters.length) = some 0) := ⟨(gk4 30 rfl rfl), (gk1 1 rfl rfl), nmh_x11.1, nmh_x11.2, pd_40⟩
theorem cb_x11_208 : CB "CallSteps" 208 i11_costOfNow 0 := ⟨(gk4 27 rfl rfl), mb11_costOfNow⟩
theorem mv11_costOfNow : Cond.instanceMethod (iy i11_costOfNow) ∈ gT ∧ Cond.selects (iy i11_costOfNow).cls (iy i11_costOfNow) (iy i11_costOfNow) ∈ gT ∧ vwCl[11]?.map (fun q => q.1) = some (iy i11_costOfNow).cls := ⟨(gk4 29 rfl rfl), (gp2 8 rfl), rfl⟩
theorem cv_x11_208 : CVw "CallSteps" 208 i11_costOfNow 0 11 := ⟨cb_x11_208, mv11_costOfNow⟩
theorem fg_x11_76 : FG "CallSteps" 76 11 8 2 := ⟨rfl, RX11, TX11, 15, rfl, by decide, (gk2 117 rfl rfl), ing11⟩
theorem mb2_lookAt : Cond.code (iy i2_lookAt) (ib i2_lookAt) (iL i2_lookAt) (ir i2_lookAt) ∈ gT ∧ Cond.initialized (iy i2_lookAt).cls ∈ gT ∧ ((iy i2_lookAt).cls ≠ "java/lang/invoke/MethodHandle" ∧ (iy i2_lookAt).cls ≠ "java/lang/invoke/VarHandle" ∧ (parseMethodDescriptor (iy i2_lookAt).desc).map (fun d => d.parameters.length) = some 2) := ⟨(gk4 182 rfl rfl), (gk1 11 rfl rfl), nmh_x2.1, nmh_x2.2, pd_17⟩
theorem cb_x11_345 : CB "CallSteps" 345 i2_lookAt 2 := ⟨(gk4 179 rfl rfl), mb2_lookAt⟩
theorem mv2_lookAt : Cond.instanceMethod (iy i2_lookAt) ∈ gT ∧ Cond.selects (iy i2_lookAt).cls (iy i2_lookAt) (iy i2_lookAt) ∈ gT ∧ vwCl[2]?.map (fun q => q.1) = some (iy i2_lookAt).cls := ⟨(gk4 180 rfl rfl), (gk4 181 rfl rfl), rfl⟩
theorem cv_x11_345 : CVw "CallSteps" 345 i2_lookAt 2 2 := ⟨cb_x11_345, mv2_lookAt⟩
theorem mb11_settleHeads : Cond.code (iy i11_settleHeads) (ib i11_settleHeads) (iL i11_settleHeads) (ir i11_settleHeads) ∈ gT ∧ Cond.initialized (iy i11_settleHeads).cls ∈ gT ∧ ((iy i11_settleHeads).cls ≠ "java/lang/invoke/MethodHandle" ∧ (iy i11_settleHeads).cls ≠ "java/lang/invoke/VarHandle" ∧ (parseMethodDescriptor (iy i11_settleHeads).desc).map (fun d => d.parameters.length) = some 0) := ⟨(gk4 178 rfl rfl), (gk1 1 rfl rfl), nmh_x11.1, nmh_x11.2, pd_3⟩
theorem cb_x11_274 : CB "CallSteps" 274 i11_settleHeads 0 := ⟨(gk4 175 rfl rfl), mb11_settleHeads⟩
theorem mv11_settleHeads : Cond.instanceMethod (iy i11_settleHeads) ∈ gT ∧ Cond.selects (iy i11_settleHeads).cls (iy i11_settleHeads) (iy i11_settleHeads) ∈ gT ∧ vwCl[11]?.map (fun q => q.1) = some (iy i11_settleHeads).cls := ⟨(gk4 177 rfl rfl), (gp3 1 rfl), rfl⟩
theorem cv_x11_274 : CVw "CallSteps" 274 i11_settleHeads 0 11 := ⟨cb_x11_274, mv11_settleHeads⟩
theorem mb2_findLasting : Cond.code (iy i2_findLasting) (ib i2_findLasting) (iL i2_findLasting) (ir i2_findLasting) ∈ gT ∧ Cond.initialized (iy i2_findLasting).cls ∈ gT ∧ ((iy i2_findLasting).cls ≠ "java/lang/invoke/MethodHandle" ∧ (iy i2_findLasting).cls ≠ "java/lang/invoke/VarHandle" ∧ (parseMethodDescriptor (iy i2_findLasting).desc).map (fun d => d.parameters.length) = some 0) := ⟨(gk5 5 rfl rfl), (gk1 11 rfl rfl), nmh_x2.1, nmh_x2.2, pd_3⟩
theorem cb_x11_286 : CB "CallSteps" 286 i2_findLasting 0 := ⟨(gk5 2 rfl rfl), mb2_findLasting⟩
theorem mv2_findLasting : Cond.instanceMethod (iy i2_findLasting) ∈ gT ∧ Cond.selects (iy i2_findLasting).cls (iy i2_findLasting) (iy i2_findLasting) ∈ gT ∧ vwCl[2]?.map (fun q => q.1) = some (iy i2_findLasting).cls := ⟨(gk5 3 rfl rfl), (gk5 4 rfl rfl), rfl⟩
theorem cv_x11_286 : CVw "CallSteps" 286 i2_findLasting 0 2 := ⟨cb_x11_286, mv2_findLasting⟩
theorem pd_41 : (parseMethodDescriptor "(LCallSteps$Place;)Z").map (fun d => d.parameters.length) = some 1 := by decide +kernel
theorem mb2_lastsFrom : Cond.code (iy i2_lastsFrom) (ib i2_lastsFrom) (iL i2_lastsFrom) (ir i2_lastsFrom) ∈ gT ∧ Cond.initialized (iy i2_lastsFrom).cls ∈ gT ∧ ((iy i2_lastsFrom).cls ≠ "java/lang/invoke/MethodHandle" ∧ (iy i2_lastsFrom).cls ≠ "java/lang/invoke/VarHandle" ∧ (parseMethodDescriptor (iy i2_lastsFrom).desc).map (fun d => d.parameters.length) = some 1) := ⟨(gk5 17 rfl rfl), (gk1 11 rfl rfl), nmh_x2.1, nmh_x2.2, pd_41⟩
theorem cb_x11_293 : CB "CallSteps" 293 i2_lastsFrom 1 := ⟨(gk5 14 rfl rfl), mb2_lastsFrom⟩
theorem mv2_lastsFrom : Cond.instanceMethod (iy i2_lastsFrom) ∈ gT ∧ Cond.selects (iy i2_lastsFrom).cls (iy i2_lastsFrom) (iy i2_lastsFrom) ∈ gT ∧ vwCl[2]?.map (fun q => q.1) = some (iy i2_lastsFrom).cls := ⟨(gk5 15 rfl rfl), (gk5 16 rfl rfl), rfl⟩
theorem cv_x11_293 : CVw "CallSteps" 293 i2_lastsFrom 1 2 := ⟨cb_x11_293, mv2_lastsFrom⟩
theorem fg_x11_121 : FG "CallSteps" 121 8 2 0 := ⟨rfl, RX8, TX8, 4, rfl, by decide, (gk1 141 rfl rfl), ing8⟩
theorem fg_x11_124 : FG "CallSteps" 124 8 3 0 := ⟨rfl, RX8, TX8, 4, rfl, by decide, (gk1 143 rfl rfl), ing8⟩
theorem k_b_20 : (Int8.ofInt (20)).toInt32 = (20 : Int32) := by decide +kernel
theorem mb9_addFour : Cond.code (iy i9_addFour) (ib i9_addFour) (iL i9_addFour) (ir i9_addFour) ∈ gT ∧ Cond.initialized (iy i9_addFour).cls ∈ gT ∧ ((iy i9_addFour).cls ≠ "java/lang/invoke/MethodHandle" ∧ (iy i9_addFour).cls ≠ "java/lang/invoke/VarHandle" ∧ (parseMethodDescriptor (iy i9_addFour).desc).map (fun d => d.parameters.length) = some 1) := ⟨(gk2 162 rfl rfl), (gk1 2 rfl rfl), nmh_x9.1, nmh_x9.2, pd_0⟩
theorem cb_x11_101 : CB "CallSteps" 101 i9_addFour 1 := ⟨(gk2 159 rfl rfl), mb9_addFour⟩
theorem mv9_addFour : Cond.instanceMethod (iy i9_addFour) ∈ gT ∧ Cond.selects (iy i9_addFour).cls (iy i9_addFour) (iy i9_addFour) ∈ gT ∧ vwCl[9]?.map (fun q => q.1) = some (iy i9_addFour).cls := ⟨(gk2 160 rfl rfl), (gk2 161 rfl rfl), rfl⟩
theorem cv_x11_101 : CVw "CallSteps" 101 i9_addFour 1 9 := ⟨cb_x11_101, mv9_addFour⟩
theorem k_b_m2 : (Int8.ofInt (-2)).toInt32 = (-2 : Int32) := by decide +kernel
theorem cb_x11_150 : CB "CallSteps" 150 i7_ofGoal 2 := ⟨(gk3 140 rfl rfl), mb7_ofGoal⟩
theorem cv_x11_150 : CVw "CallSteps" 150 i7_ofGoal 2 7 := ⟨cb_x11_150, mv7_ofGoal⟩
theorem fg_x11_83 : FG "CallSteps" 83 11 9 2 := ⟨rfl, RX11, TX11, 15, rfl, by decide, (gk2 118 rfl rfl), ing11⟩
theorem mb5_numberFrom : Cond.code (iy i5_numberFrom) (ib i5_numberFrom) (iL i5_numberFrom) (ir i5_numberFrom) ∈ gT ∧ Cond.initialized (iy i5_numberFrom).cls ∈ gT ∧ ((iy i5_numberFrom).cls ≠ "java/lang/invoke/MethodHandle" ∧ (iy i5_numberFrom).cls ≠ "java/lang/invoke/VarHandle" ∧ (parseMethodDescriptor (iy i5_numberFrom).desc).map (fun d => d.parameters.length) = some 1) := ⟨(gk5 172 rfl rfl), (gk1 12 rfl rfl), nmh_x5.1, nmh_x5.2, pd_0⟩
theorem cb_x11_354 : CB "CallSteps" 354 i5_numberFrom 1 := ⟨(gk5 169 rfl rfl), mb5_numberFrom⟩
theorem mv5_numberFrom : Cond.instanceMethod (iy i5_numberFrom) ∈ gT ∧ Cond.selects (iy i5_numberFrom).cls (iy i5_numberFrom) (iy i5_numberFrom) ∈ gT ∧ vwCl[5]?.map (fun q => q.1) = some (iy i5_numberFrom).cls := ⟨(gk5 170 rfl rfl), (gk5 171 rfl rfl), rfl⟩
theorem cv_x11_354 : CVw "CallSteps" 354 i5_numberFrom 1 5 := ⟨cb_x11_354, mv5_numberFrom⟩
theorem fg_x11_95 : FG "CallSteps" 95 11 14 0 := ⟨rfl, RX11, TX11, 15, rfl, by decide, (gk2 123 rfl rfl), ing11⟩
theorem pd_42 : (parseMethodDescriptor "(LCallSteps$Program;LCallSteps$Costs;)V").map (fun d => d.parameters.length) = some 2 := by decide +kernel
theorem mb5_build : Cond.code (iy i5_build) (ib i5_build) (iL i5_build) (ir i5_build) ∈ gT ∧ Cond.initialized (iy i5_build).cls ∈ gT ∧ ((iy i5_build).cls ≠ "java/lang/invoke/MethodHandle" ∧ (iy i5_build).cls ≠ "java/lang/invoke/VarHandle" ∧ (parseMethodDescriptor (iy i5_build).desc).map (fun d => d.parameters.length) = some 2) := ⟨(gk5 84 rfl rfl), (gk1 12 rfl rfl), nmh_x5.1, nmh_x5.2, pd_42⟩
theorem cb_x11_348 : CB "CallSteps" 348 i5_build 2 := ⟨(gk5 81 rfl rfl), mb5_build⟩
theorem mv5_build : Cond.instanceMethod (iy i5_build) ∈ gT ∧ Cond.selects (iy i5_build).cls (iy i5_build) (iy i5_build) ∈ gT ∧ vwCl[5]?.map (fun q => q.1) = some (iy i5_build).cls := ⟨(gk5 82 rfl rfl), (gk5 83 rfl rfl), rfl⟩
theorem cv_x11_348 : CVw "CallSteps" 348 i5_build 2 5 := ⟨cb_x11_348, mv5_build⟩
theorem mb5_sortOut : Cond.code (iy i5_sortOut) (ib i5_sortOut) (iL i5_sortOut) (ir i5_sortOut) ∈ gT ∧ Cond.initialized (iy i5_sortOut).cls ∈ gT ∧ ((iy i5_sortOut).cls ≠ "java/lang/invoke/MethodHandle" ∧ (iy i5_sortOut).cls ≠ "java/lang/invoke/VarHandle" ∧ (parseMethodDescriptor (iy i5_sortOut).desc).map (fun d => d.parameters.length) = some 0) := ⟨(gk5 144 rfl rfl), (gk1 12 rfl rfl), nmh_x5.1, nmh_x5.2, pd_3⟩
theorem cb_x11_351 : CB "CallSteps" 351 i5_sortOut 0 := ⟨(gk5 141 rfl rfl), mb5_sortOut⟩
theorem mv5_sortOut : Cond.instanceMethod (iy i5_sortOut) ∈ gT ∧ Cond.selects (iy i5_sortOut).cls (iy i5_sortOut) (iy i5_sortOut) ∈ gT ∧ vwCl[5]?.map (fun q => q.1) = some (iy i5_sortOut).cls := ⟨(gk5 142 rfl rfl), (gk5 143 rfl rfl), rfl⟩
theorem cv_x11_351 : CVw "CallSteps" 351 i5_sortOut 0 5 := ⟨cb_x11_351, mv5_sortOut⟩
theorem fp_x11_95 : FP "CallSteps" 95 11 14 0 false .boolean := ⟨rfl, RX11, TX11, 15, tyX11, ⟨rfl, by decide, (gk2 123 rfl rfl), ing11⟩, tyX11_ok, nmX11, rfl, rfl, rfl⟩
theorem mb11_settleMachine : Cond.code (iy i11_settleMachine) (ib i11_settleMachine) (iL i11_settleMachine) (ir i11_settleMachine) ∈ gT ∧ Cond.initialized (iy i11_settleMachine).cls ∈ gT ∧ ((iy i11_settleMachine).cls ≠ "java/lang/invoke/MethodHandle" ∧ (iy i11_settleMachine).cls ≠ "java/lang/invoke/VarHandle" ∧ (parseMethodDescriptor (iy i11_settleMachine).desc).map (fun d => d.parameters.length) = some 1) := ⟨(gk5 80 rfl rfl), (gk1 1 rfl rfl), nmh_x11.1, nmh_x11.2, pd_0⟩
theorem cb_x11_307 : CB "CallSteps" 307 i11_settleMachine 1 := ⟨(gk5 77 rfl rfl), mb11_settleMachine⟩
theorem mv11_settleMachine : Cond.instanceMethod (iy i11_settleMachine) ∈ gT ∧ Cond.selects (iy i11_settleMachine).cls (iy i11_settleMachine) (iy i11_settleMachine) ∈ gT ∧ vwCl[11]?.map (fun q => q.1) = some (iy i11_settleMachine).cls := ⟨(gk5 79 rfl rfl), (gp3 14 rfl), rfl⟩
theorem cv_x11_307 : CVw "CallSteps" 307 i11_settleMachine 1 11 := ⟨cb_x11_307, mv11_settleMachine⟩
theorem mb5_hasNode : Cond.code (iy i5_hasNode) (ib i5_hasNode) (iL i5_hasNode) (ir i5_hasNode) ∈ gT ∧ Cond.initialized (iy i5_hasNode).cls ∈ gT ∧ ((iy i5_hasNode).cls ≠ "java/lang/invoke/MethodHandle" ∧ (iy i5_hasNode).cls ≠ "java/lang/invoke/VarHandle" ∧ (parseMethodDescriptor (iy i5_hasNode).desc).map (fun d => d.parameters.length) = some 1) := ⟨(gk5 184 rfl rfl), (gk1 12 rfl rfl), nmh_x5.1, nmh_x5.2, pd_12⟩
theorem cb_x11_313 : CB "CallSteps" 313 i5_hasNode 1 := ⟨(gk5 181 rfl rfl), mb5_hasNode⟩
theorem mv5_hasNode : Cond.instanceMethod (iy i5_hasNode) ∈ gT ∧ Cond.selects (iy i5_hasNode).cls (iy i5_hasNode) (iy i5_hasNode) ∈ gT ∧ vwCl[5]?.map (fun q => q.1) = some (iy i5_hasNode).cls := ⟨(gk5 182 rfl rfl), (gk5 183 rfl rfl), rfl⟩
theorem cv_x11_313 : CVw "CallSteps" 313 i5_hasNode 1 5 := ⟨cb_x11_313, mv5_hasNode⟩
theorem cb_x11_319 : CB "CallSteps" 319 i5_isGoodNode 1 := ⟨(gk5 193 rfl rfl), mb5_isGoodNode⟩
theorem cv_x11_319 : CVw "CallSteps" 319 i5_isGoodNode 1 5 := ⟨cb_x11_319, mv5_isGoodNode⟩
theorem mb2_findRises : Cond.code (iy i2_findRises) (ib i2_findRises) (iL i2_findRises) (ir i2_findRises) ∈ gT ∧ Cond.initialized (iy i2_findRises).cls ∈ gT ∧ ((iy i2_findRises).cls ≠ "java/lang/invoke/MethodHandle" ∧ (iy i2_findRises).cls ≠ "java/lang/invoke/VarHandle" ∧ (parseMethodDescriptor (iy i2_findRises).desc).map (fun d => d.parameters.length) = some 0) := ⟨(gk4 186 rfl rfl), (gk1 11 rfl rfl), nmh_x2.1, nmh_x2.2, pd_3⟩
theorem cb_x11_277 : CB "CallSteps" 277 i2_findRises 0 := ⟨(gk4 183 rfl rfl), mb2_findRises⟩
theorem mv2_findRises : Cond.instanceMethod (iy i2_findRises) ∈ gT ∧ Cond.selects (iy i2_findRises).cls (iy i2_findRises) (iy i2_findRises) ∈ gT ∧ vwCl[2]?.map (fun q => q.1) = some (iy i2_findRises).cls := ⟨(gk4 184 rfl rfl), (gk4 185 rfl rfl), rfl⟩
theorem cv_x11_277 : CVw "CallSteps" 277 i2_findRises 0 2 := ⟨cb_x11_277, mv2_findRises⟩
theorem pd_43 : (parseMethodDescriptor "(LCallSteps$Place;)I").map (fun d => d.parameters.length) = some 1 := by decide +kernel
theorem mb2_highestFrom : Cond.code (iy i2_highestFrom) (ib i2_highestFrom) (iL i2_highestFrom) (ir i2_highestFrom) ∈ gT ∧ Cond.initialized (iy i2_highestFrom).cls ∈ gT ∧ ((iy i2_highestFrom).cls ≠ "java/lang/invoke/MethodHandle" ∧ (iy i2_highestFrom).cls ≠ "java/lang/invoke/VarHandle" ∧ (parseMethodDescriptor (iy i2_highestFrom).desc).map (fun d => d.parameters.length) = some 1) := ⟨(gk4 228 rfl rfl), (gk1 11 rfl rfl), nmh_x2.1, nmh_x2.2, pd_43⟩
theorem cb_x11_280 : CB "CallSteps" 280 i2_highestFrom 1 := ⟨(gk4 225 rfl rfl), mb2_highestFrom⟩
theorem mv2_highestFrom : Cond.instanceMethod (iy i2_highestFrom) ∈ gT ∧ Cond.selects (iy i2_highestFrom).cls (iy i2_highestFrom) (iy i2_highestFrom) ∈ gT ∧ vwCl[2]?.map (fun q => q.1) = some (iy i2_highestFrom).cls := ⟨(gk4 226 rfl rfl), (gk4 227 rfl rfl), rfl⟩
theorem cv_x11_280 : CVw "CallSteps" 280 i2_highestFrom 1 2 := ⟨cb_x11_280, mv2_highestFrom⟩
theorem oi_x11_3 : Cond.methodLink "CallSteps" 3 objectInit ∈ gT ∧ Cond.instanceMethod objectInit ∈ gT ∧ Cond.code objectInit ⟨#[0xb1]⟩ 1 none ∈ gT := ⟨(gk1 27 rfl rfl), (gk1 28 rfl rfl), (gk1 29 rfl rfl)⟩
theorem nc_x11_9 : NC "CallSteps" 9 9 7 := ⟨RX9, TX9, tyX9, rfl, (gk1 30 rfl rfl), (gk1 31 rfl rfl), (gk1 2 rfl rfl), ing9, tyX9_ok, by decide +kernel⟩
theorem mb9_init : Cond.code (iy i9_init) (ib i9_init) (iL i9_init) (ir i9_init) ∈ gT ∧ Cond.initialized (iy i9_init).cls ∈ gT ∧ ((iy i9_init).cls ≠ "java/lang/invoke/MethodHandle" ∧ (iy i9_init).cls ≠ "java/lang/invoke/VarHandle" ∧ (parseMethodDescriptor (iy i9_init).desc).map (fun d => d.parameters.length) = some 0) := ⟨(gk1 34 rfl rfl), (gk1 2 rfl rfl), nmh_x9.1, nmh_x9.2, pd_3⟩
theorem cn_x11_11 : CNw "CallSteps" 11 "CallSteps" i9_init 0 := ⟨List.mem_filter.mpr ⟨List.mem_of_getElem? (i := 160) (by decide +kernel), rfl⟩, mb9_init.1, mb9_init.2.1, mb9_init.2.2, rfl, (gk1 33 rfl rfl), rfl⟩
theorem fp_x11_12 : FP "CallSteps" 12 11 0 2 true (.object "CallSteps$Tape") := ⟨rfl, RX11, TX11, 15, tyX11, ⟨rfl, by decide, (gk2 109 rfl rfl), ing11⟩, tyX11_ok, nmX11, rfl, rfl, rfl⟩
theorem nc_x11_16 : NC "CallSteps" 16 7 8 := ⟨RX7, TX7, tyX7, rfl, (gk1 64 rfl rfl), (gk1 65 rfl rfl), (gk1 3 rfl rfl), ing7, tyX7_ok, by decide +kernel⟩
theorem mb7_init : Cond.code (iy i7_init) (ib i7_init) (iL i7_init) (ir i7_init) ∈ gT ∧ Cond.initialized (iy i7_init).cls ∈ gT ∧ ((iy i7_init).cls ≠ "java/lang/invoke/MethodHandle" ∧ (iy i7_init).cls ≠ "java/lang/invoke/VarHandle" ∧ (parseMethodDescriptor (iy i7_init).desc).map (fun d => d.parameters.length) = some 0) := ⟨(gk1 68 rfl rfl), (gk1 3 rfl rfl), nmh_x7.1, nmh_x7.2, pd_3⟩
theorem cn_x11_18 : CNw "CallSteps" 18 "CallSteps" i7_init 0 := ⟨List.mem_filter.mpr ⟨List.mem_of_getElem? (i := 194) (by decide +kernel), rfl⟩, mb7_init.1, mb7_init.2.1, mb7_init.2.2, rfl, (gk1 67 rfl rfl), rfl⟩
theorem fp_x11_19 : FP "CallSteps" 19 11 10 2 false (.object "CallSteps$Program") := ⟨rfl, RX11, TX11, 15, tyX11, ⟨rfl, by decide, (gk2 119 rfl rfl), ing11⟩, tyX11_ok, nmX11, rfl, rfl, rfl⟩
theorem fg_x11_23 : FG "CallSteps" 23 11 11 2 := ⟨rfl, RX11, TX11, 15, rfl, by decide, (gk2 120 rfl rfl), ing11⟩
theorem fp_x11_23 : FP "CallSteps" 23 11 11 2 false (.object "CallSteps$Program") := ⟨rfl, RX11, TX11, 15, tyX11, ⟨rfl, by decide, (gk2 120 rfl rfl), ing11⟩, tyX11_ok, nmX11, rfl, rfl, rfl⟩
theorem nc_x11_26 : NC "CallSteps" 26 8 4 := ⟨RX8, TX8, tyX8, rfl, (gk1 132 rfl rfl), (gk1 133 rfl rfl), (gk1 6 rfl rfl), ing8, tyX8_ok, by decide +kernel⟩
theorem pd_44 : (parseMethodDescriptor "(LCallSteps$Tape;LCallSteps$Program;)V").map (fun d => d.parameters.length) = some 2 := by decide +kernel
theorem mb8_init : Cond.code (iy i8_init) (ib i8_init) (iL i8_init) (ir i8_init) ∈ gT ∧ Cond.initialized (iy i8_init).cls ∈ gT ∧ ((iy i8_init).cls ≠ "java/lang/invoke/MethodHandle" ∧ (iy i8_init).cls ≠ "java/lang/invoke/VarHandle" ∧ (parseMethodDescriptor (iy i8_init).desc).map (fun d => d.parameters.length) = some 2) := ⟨(gk1 136 rfl rfl), (gk1 6 rfl rfl), nmh_x8.1, nmh_x8.2, pd_44⟩
theorem cb_x11_28 : CB "CallSteps" 28 i8_init 2 := ⟨(gk1 134 rfl rfl), mb8_init⟩
theorem ci_x11_28 : CIw "CallSteps" 28 i8_init 2 := ⟨cb_x11_28, rfl, (gk1 135 rfl rfl), rfl⟩
theorem fp_x11_31 : FP "CallSteps" 31 11 1 2 true (.object "CallSteps$Reader") := ⟨rfl, RX11, TX11, 15, tyX11, ⟨rfl, by decide, (gk2 110 rfl rfl), ing11⟩, tyX11_ok, nmX11, rfl, rfl, rfl⟩
theorem nc_x11_35 : NC "CallSteps" 35 6 4 := ⟨RX6, TX6, tyX6, rfl, (gk1 153 rfl rfl), (gk1 154 rfl rfl), (gk1 7 rfl rfl), ing6, tyX6_ok, by decide +kernel⟩
theorem cb_x11_37 : CB "CallSteps" 37 i6_init 1 := ⟨(gk1 155 rfl rfl), mb6_init⟩
theorem ci_x11_37 : CIw "CallSteps" 37 i6_init 1 := ⟨cb_x11_37, rfl, (gk1 156 rfl rfl), rfl⟩
theorem fp_x11_40 : FP "CallSteps" 40 11 2 2 true (.object "CallSteps$Place") := ⟨rfl, RX11, TX11, 15, tyX11, ⟨rfl, by decide, (gk2 111 rfl rfl), ing11⟩, tyX11_ok, nmX11, rfl, rfl, rfl⟩
theorem fp_x11_44 : FP "CallSteps" 44 11 3 2 true (.object "CallSteps$Place") := ⟨rfl, RX11, TX11, 15, tyX11, ⟨rfl, by decide, (gk2 112 rfl rfl), ing11⟩, tyX11_ok, nmX11, rfl, rfl, rfl⟩
theorem nc_x11_47 : NC "CallSteps" 47 0 3 := ⟨RX0, TX0, tyX0, rfl, (gk1 186 rfl rfl), (gk1 187 rfl rfl), (gk1 8 rfl rfl), ing0, tyX0_ok, by decide +kernel⟩
theorem mb0_init : Cond.code (iy i0_init) (ib i0_init) (iL i0_init) (ir i0_init) ∈ gT ∧ Cond.initialized (iy i0_init).cls ∈ gT ∧ ((iy i0_init).cls ≠ "java/lang/invoke/MethodHandle" ∧ (iy i0_init).cls ≠ "java/lang/invoke/VarHandle" ∧ (parseMethodDescriptor (iy i0_init).desc).map (fun d => d.parameters.length) = some 0) := ⟨(gk1 190 rfl rfl), (gk1 8 rfl rfl), nmh_x0.1, nmh_x0.2, pd_3⟩
theorem cn_x11_49 : CNw "CallSteps" 49 "CallSteps" i0_init 0 := ⟨List.mem_filter.mpr ⟨List.mem_of_getElem? (i := 316) (by decide +kernel), rfl⟩, mb0_init.1, mb0_init.2.1, mb0_init.2.2, rfl, (gk1 189 rfl rfl), rfl⟩
theorem fp_x11_50 : FP "CallSteps" 50 11 4 2 true (.object "CallSteps$Acts") := ⟨rfl, RX11, TX11, 15, tyX11, ⟨rfl, by decide, (gk2 113 rfl rfl), ing11⟩, tyX11_ok, nmX11, rfl, rfl, rfl⟩
theorem nc_x11_54 : NC "CallSteps" 54 1 2 := ⟨RX1, TX1, tyX1, rfl, (gk1 205 rfl rfl), (gk1 206 rfl rfl), (gk1 9 rfl rfl), ing1, tyX1_ok, by decide +kernel⟩
theorem mb1_init : Cond.code (iy i1_init) (ib i1_init) (iL i1_init) (ir i1_init) ∈ gT ∧ Cond.initialized (iy i1_init).cls ∈ gT ∧ ((iy i1_init).cls ≠ "java/lang/invoke/MethodHandle" ∧ (iy i1_init).cls ≠ "java/lang/invoke/VarHandle" ∧ (parseMethodDescriptor (iy i1_init).desc).map (fun d => d.parameters.length) = some 1) := ⟨(gk1 209 rfl rfl), (gk1 9 rfl rfl), nmh_x1.1, nmh_x1.2, pd_0⟩
theorem cb_x11_56 : CB "CallSteps" 56 i1_init 1 := ⟨(gk1 207 rfl rfl), mb1_init⟩
theorem ci_x11_56 : CIw "CallSteps" 56 i1_init 1 := ⟨cb_x11_56, rfl, (gk1 208 rfl rfl), rfl⟩
theorem fp_x11_57 : FP "CallSteps" 57 11 5 2 true (.object "CallSteps$Costs") := ⟨rfl, RX11, TX11, 15, tyX11, ⟨rfl, by decide, (gk2 114 rfl rfl), ing11⟩, tyX11_ok, nmX11, rfl, rfl, rfl⟩
theorem fp_x11_61 : FP "CallSteps" 61 11 6 2 true (.object "CallSteps$Costs") := ⟨rfl, RX11, TX11, 15, tyX11, ⟨rfl, by decide, (gk2 115 rfl rfl), ing11⟩, tyX11_ok, nmX11, rfl, rfl, rfl⟩
theorem nc_x11_64 : NC "CallSteps" 64 10 4 := ⟨RX10, TX10, tyX10, rfl, (gk1 220 rfl rfl), (gk1 221 rfl rfl), (gk1 10 rfl rfl), ing10, tyX10_ok, by decide +kernel⟩
theorem mb10_init : Cond.code (iy i10_init) (ib i10_init) (iL i10_init) (ir i10_init) ∈ gT ∧ Cond.initialized (iy i10_init).cls ∈ gT ∧ ((iy i10_init).cls ≠ "java/lang/invoke/MethodHandle" ∧ (iy i10_init).cls ≠ "java/lang/invoke/VarHandle" ∧ (parseMethodDescriptor (iy i10_init).desc).map (fun d => d.parameters.length) = some 0) := ⟨(gk1 224 rfl rfl), (gk1 10 rfl rfl), nmh_x10.1, nmh_x10.2, pd_3⟩
theorem cn_x11_66 : CNw "CallSteps" 66 "CallSteps" i10_init 0 := ⟨List.mem_filter.mpr ⟨List.mem_of_getElem? (i := 350) (by decide +kernel), rfl⟩, mb10_init.1, mb10_init.2.1, mb10_init.2.2, rfl, (gk1 223 rfl rfl), rfl⟩
theorem fg_x11_67 : FG "CallSteps" 67 11 7 2 := ⟨rfl, RX11, TX11, 15, rfl, by decide, (gk2 116 rfl rfl), ing11⟩
theorem fp_x11_67 : FP "CallSteps" 67 11 7 2 true (.object "CallSteps$Walk") := ⟨rfl, RX11, TX11, 15, tyX11, ⟨rfl, by decide, (gk2 116 rfl rfl), ing11⟩, tyX11_ok, nmX11, rfl, rfl, rfl⟩
theorem nc_x11_71 : NC "CallSteps" 71 2 9 := ⟨RX2, TX2, tyX2, rfl, (gk2 5 rfl rfl), (gk2 6 rfl rfl), (gk1 11 rfl rfl), ing2, tyX2_ok, by decide +kernel⟩
theorem mb2_init : Cond.code (iy i2_init) (ib i2_init) (iL i2_init) (ir i2_init) ∈ gT ∧ Cond.initialized (iy i2_init).cls ∈ gT ∧ ((iy i2_init).cls ≠ "java/lang/invoke/MethodHandle" ∧ (iy i2_init).cls ≠ "java/lang/invoke/VarHandle" ∧ (parseMethodDescriptor (iy i2_init).desc).map (fun d => d.parameters.length) = some 2) := ⟨(gk2 9 rfl rfl), (gk1 11 rfl rfl), nmh_x2.1, nmh_x2.2, pd_42⟩
theorem cb_x11_73 : CB "CallSteps" 73 i2_init 2 := ⟨(gk2 7 rfl rfl), mb2_init⟩
theorem ci_x11_73 : CIw "CallSteps" 73 i2_init 2 := ⟨cb_x11_73, rfl, (gk2 8 rfl rfl), rfl⟩
theorem fp_x11_76 : FP "CallSteps" 76 11 8 2 true (.object "CallSteps$Heads") := ⟨rfl, RX11, TX11, 15, tyX11, ⟨rfl, by decide, (gk2 117 rfl rfl), ing11⟩, tyX11_ok, nmX11, rfl, rfl, rfl⟩
theorem nc_x11_80 : NC "CallSteps" 80 5 18 := ⟨RX5, TX5, tyX5, rfl, (gk2 43 rfl rfl), (gk2 44 rfl rfl), (gk1 12 rfl rfl), ing5, tyX5_ok, by decide +kernel⟩
theorem mb5_init : Cond.code (iy i5_init) (ib i5_init) (iL i5_init) (ir i5_init) ∈ gT ∧ Cond.initialized (iy i5_init).cls ∈ gT ∧ ((iy i5_init).cls ≠ "java/lang/invoke/MethodHandle" ∧ (iy i5_init).cls ≠ "java/lang/invoke/VarHandle" ∧ (parseMethodDescriptor (iy i5_init).desc).map (fun d => d.parameters.length) = some 0) := ⟨(gk2 47 rfl rfl), (gk1 12 rfl rfl), nmh_x5.1, nmh_x5.2, pd_3⟩
theorem cn_x11_82 : CNw "CallSteps" 82 "CallSteps" i5_init 0 := ⟨List.mem_filter.mpr ⟨List.mem_of_getElem? (i := 413) (by decide +kernel), rfl⟩, mb5_init.1, mb5_init.2.1, mb5_init.2.2, rfl, (gk2 46 rfl rfl), rfl⟩
theorem fp_x11_83 : FP "CallSteps" 83 11 9 2 true (.object "CallSteps$Machines") := ⟨rfl, RX11, TX11, 15, tyX11, ⟨rfl, by decide, (gk2 118 rfl rfl), ing11⟩, tyX11_ok, nmX11, rfl, rfl, rfl⟩
theorem fp_x11_87 : FP "CallSteps" 87 11 12 0 false .int := ⟨rfl, RX11, TX11, 15, tyX11, ⟨rfl, by decide, (gk2 121 rfl rfl), ing11⟩, tyX11_ok, nmX11, rfl, rfl, rfl⟩
theorem pd_45 : (parseMethodDescriptor "(ILCallSteps$Place;)Z").map (fun d => d.parameters.length) = some 2 := by decide +kernel
theorem mb7_isAtGoal : Cond.code (iy i7_isAtGoal) (ib i7_isAtGoal) (iL i7_isAtGoal) (ir i7_isAtGoal) ∈ gT ∧ Cond.initialized (iy i7_isAtGoal).cls ∈ gT ∧ ((iy i7_isAtGoal).cls ≠ "java/lang/invoke/MethodHandle" ∧ (iy i7_isAtGoal).cls ≠ "java/lang/invoke/VarHandle" ∧ (parseMethodDescriptor (iy i7_isAtGoal).desc).map (fun d => d.parameters.length) = some 2) := ⟨(gk3 198 rfl rfl), (gk1 3 rfl rfl), nmh_x7.1, nmh_x7.2, pd_45⟩
theorem cb_x11_338 : CB "CallSteps" 338 i7_isAtGoal 2 := ⟨(gk3 195 rfl rfl), mb7_isAtGoal⟩
theorem mv7_isAtGoal : Cond.instanceMethod (iy i7_isAtGoal) ∈ gT ∧ Cond.selects (iy i7_isAtGoal).cls (iy i7_isAtGoal) (iy i7_isAtGoal) ∈ gT ∧ vwCl[7]?.map (fun q => q.1) = some (iy i7_isAtGoal).cls := ⟨(gk3 196 rfl rfl), (gk3 197 rfl rfl), rfl⟩
theorem cv_x11_338 : CVw "CallSteps" 338 i7_isAtGoal 2 7 := ⟨cb_x11_338, mv7_isAtGoal⟩
theorem cb_x11_289 : CB "CallSteps" 289 i2_isLasting 2 := ⟨(gk6 95 rfl rfl), mb2_isLasting⟩
theorem cv_x11_289 : CVw "CallSteps" 289 i2_isLasting 2 2 := ⟨cb_x11_289, mv2_isLasting⟩
theorem mb2_findMostSteps : Cond.code (iy i2_findMostSteps) (ib i2_findMostSteps) (iL i2_findMostSteps) (ir i2_findMostSteps) ∈ gT ∧ Cond.initialized (iy i2_findMostSteps).cls ∈ gT ∧ ((iy i2_findMostSteps).cls ≠ "java/lang/invoke/MethodHandle" ∧ (iy i2_findMostSteps).cls ≠ "java/lang/invoke/VarHandle" ∧ (parseMethodDescriptor (iy i2_findMostSteps).desc).map (fun d => d.parameters.length) = some 0) := ⟨(gk5 29 rfl rfl), (gk1 11 rfl rfl), nmh_x2.1, nmh_x2.2, pd_3⟩
theorem cb_x11_297 : CB "CallSteps" 297 i2_findMostSteps 0 := ⟨(gk5 26 rfl rfl), mb2_findMostSteps⟩
theorem mv2_findMostSteps : Cond.instanceMethod (iy i2_findMostSteps) ∈ gT ∧ Cond.selects (iy i2_findMostSteps).cls (iy i2_findMostSteps) (iy i2_findMostSteps) ∈ gT ∧ vwCl[2]?.map (fun q => q.1) = some (iy i2_findMostSteps).cls := ⟨(gk5 27 rfl rfl), (gk5 28 rfl rfl), rfl⟩
theorem cv_x11_297 : CVw "CallSteps" 297 i2_findMostSteps 0 2 := ⟨cb_x11_297, mv2_findMostSteps⟩
theorem mb2_mostStepsFrom : Cond.code (iy i2_mostStepsFrom) (ib i2_mostStepsFrom) (iL i2_mostStepsFrom) (ir i2_mostStepsFrom) ∈ gT ∧ Cond.initialized (iy i2_mostStepsFrom).cls ∈ gT ∧ ((iy i2_mostStepsFrom).cls ≠ "java/lang/invoke/MethodHandle" ∧ (iy i2_mostStepsFrom).cls ≠ "java/lang/invoke/VarHandle" ∧ (parseMethodDescriptor (iy i2_mostStepsFrom).desc).map (fun d => d.parameters.length) = some 1) := ⟨(gk5 60 rfl rfl), (gk1 11 rfl rfl), nmh_x2.1, nmh_x2.2, pd_36⟩
theorem cb_x11_300 : CB "CallSteps" 300 i2_mostStepsFrom 1 := ⟨(gk5 57 rfl rfl), mb2_mostStepsFrom⟩
theorem mv2_mostStepsFrom : Cond.instanceMethod (iy i2_mostStepsFrom) ∈ gT ∧ Cond.selects (iy i2_mostStepsFrom).cls (iy i2_mostStepsFrom) (iy i2_mostStepsFrom) ∈ gT ∧ vwCl[2]?.map (fun q => q.1) = some (iy i2_mostStepsFrom).cls := ⟨(gk5 58 rfl rfl), (gk5 59 rfl rfl), rfl⟩
theorem cv_x11_300 : CVw "CallSteps" 300 i2_mostStepsFrom 1 2 := ⟨cb_x11_300, mv2_mostStepsFrom⟩
theorem kc_x11_251 : Cond.constantLong "CallSteps" 251 (-2 : Int64) ∈ gT := (gk4 155 rfl rfl)
theorem fg_x11_310 : FG "CallSteps" 310 5 17 0 := ⟨rfl, RX5, TX5, 18, rfl, by decide, (gk2 71 rfl rfl), ing5⟩
theorem cb_x11_139 : CB "CallSteps" 139 i7_hasRule 1 := ⟨(gk3 120 rfl rfl), mb7_hasRule⟩
theorem cv_x11_139 : CVw "CallSteps" 139 i7_hasRule 1 7 := ⟨cb_x11_139, mv7_hasRule⟩
theorem mb11_isOut : Cond.code (iy i11_isOut) (ib i11_isOut) (iL i11_isOut) (ir i11_isOut) ∈ gT ∧ Cond.initialized (iy i11_isOut).cls ∈ gT ∧ ((iy i11_isOut).cls ≠ "java/lang/invoke/MethodHandle" ∧ (iy i11_isOut).cls ≠ "java/lang/invoke/VarHandle" ∧ (parseMethodDescriptor (iy i11_isOut).desc).map (fun d => d.parameters.length) = some 1) := ⟨(gk3 127 rfl rfl), (gk1 1 rfl rfl), nmh_x11.1, nmh_x11.2, pd_12⟩
theorem cb_x11_143 : CB "CallSteps" 143 i11_isOut 1 := ⟨(gk3 124 rfl rfl), mb11_isOut⟩
theorem mv11_isOut : Cond.instanceMethod (iy i11_isOut) ∈ gT ∧ Cond.selects (iy i11_isOut).cls (iy i11_isOut) (iy i11_isOut) ∈ gT ∧ vwCl[11]?.map (fun q => q.1) = some (iy i11_isOut).cls := ⟨(gk3 126 rfl rfl), (gp2 4 rfl), rfl⟩
theorem cv_x11_143 : CVw "CallSteps" 143 i11_isOut 1 11 := ⟨cb_x11_143, mv11_isOut⟩
theorem cb_x11_316 : CB "CallSteps" 316 i5_nodeBehind 2 := ⟨(gk5 185 rfl rfl), mb5_nodeBehind⟩
theorem cv_x11_316 : CVw "CallSteps" 316 i5_nodeBehind 2 5 := ⟨cb_x11_316, mv5_nodeBehind⟩
theorem cb_x11_178 : CB "CallSteps" 178 i6_fromTop 1 := ⟨(gk3 204 rfl rfl), mb6_fromTop⟩
theorem cv_x11_178 : CVw "CallSteps" 178 i6_fromTop 1 6 := ⟨cb_x11_178, mv6_fromTop⟩
theorem fg_x11_172 : FG "CallSteps" 172 6 2 0 := ⟨rfl, RX6, TX6, 4, rfl, by decide, (gk1 167 rfl rfl), ing6⟩
theorem mb11_isAtGoal : Cond.code (iy i11_isAtGoal) (ib i11_isAtGoal) (iL i11_isAtGoal) (ir i11_isAtGoal) ∈ gT ∧ Cond.initialized (iy i11_isAtGoal).cls ∈ gT ∧ ((iy i11_isAtGoal).cls ≠ "java/lang/invoke/MethodHandle" ∧ (iy i11_isAtGoal).cls ≠ "java/lang/invoke/VarHandle" ∧ (parseMethodDescriptor (iy i11_isAtGoal).desc).map (fun d => d.parameters.length) = some 0) := ⟨(gk3 194 rfl rfl), (gk1 1 rfl rfl), nmh_x11.1, nmh_x11.2, pd_26⟩
theorem cb_x11_175 : CB "CallSteps" 175 i11_isAtGoal 0 := ⟨(gk3 191 rfl rfl), mb11_isAtGoal⟩
theorem mv11_isAtGoal : Cond.instanceMethod (iy i11_isAtGoal) ∈ gT ∧ Cond.selects (iy i11_isAtGoal).cls (iy i11_isAtGoal) (iy i11_isAtGoal) ∈ gT ∧ vwCl[11]?.map (fun q => q.1) = some (iy i11_isAtGoal).cls := ⟨(gk3 193 rfl rfl), (gp2 6 rfl), rfl⟩
theorem cv_x11_175 : CVw "CallSteps" 175 i11_isAtGoal 0 11 := ⟨cb_x11_175, mv11_isAtGoal⟩
theorem mb11_putOut : Cond.code (iy i11_putOut) (ib i11_putOut) (iL i11_putOut) (ir i11_putOut) ∈ gT ∧ Cond.initialized (iy i11_putOut).cls ∈ gT ∧ ((iy i11_putOut).cls ≠ "java/lang/invoke/MethodHandle" ∧ (iy i11_putOut).cls ≠ "java/lang/invoke/VarHandle" ∧ (parseMethodDescriptor (iy i11_putOut).desc).map (fun d => d.parameters.length) = some 1) := ⟨(gk3 107 rfl rfl), (gk1 1 rfl rfl), nmh_x11.1, nmh_x11.2, pd_0⟩
theorem cb_x11_115 : CB "CallSteps" 115 i11_putOut 1 := ⟨(gk3 104 rfl rfl), mb11_putOut⟩
theorem mv11_putOut : Cond.instanceMethod (iy i11_putOut) ∈ gT ∧ Cond.selects (iy i11_putOut).cls (iy i11_putOut) (iy i11_putOut) ∈ gT ∧ vwCl[11]?.map (fun q => q.1) = some (iy i11_putOut).cls := ⟨(gk3 106 rfl rfl), (gp2 3 rfl), rfl⟩
theorem cv_x11_115 : CVw "CallSteps" 115 i11_putOut 1 11 := ⟨cb_x11_115, mv11_putOut⟩
theorem cb_x11_247 : CB "CallSteps" 247 i1_edge 3 := ⟨(gk6 79 rfl rfl), mb1_edge⟩
theorem cv_x11_247 : CVw "CallSteps" 247 i1_edge 3 1 := ⟨cb_x11_247, mv1_edge⟩
theorem cb_x11_283 : CB "CallSteps" 283 i2_riseOf 2 := ⟨(gk6 87 rfl rfl), mb2_riseOf⟩
theorem cv_x11_283 : CVw "CallSteps" 283 i2_riseOf 2 2 := ⟨cb_x11_283, mv2_riseOf⟩
theorem mb11_can : Cond.code (iy i11_can) (ib i11_can) (iL i11_can) (ir i11_can) ∈ gT ∧ Cond.initialized (iy i11_can).cls ∈ gT ∧ ((iy i11_can).cls ≠ "java/lang/invoke/MethodHandle" ∧ (iy i11_can).cls ≠ "java/lang/invoke/VarHandle" ∧ (parseMethodDescriptor (iy i11_can).desc).map (fun d => d.parameters.length) = some 0) := ⟨(gk3 208 rfl rfl), (gk1 1 rfl rfl), nmh_x11.1, nmh_x11.2, pd_24⟩
theorem cb_x11_189 : CB "CallSteps" 189 i11_can 0 := ⟨(gk4 0 rfl rfl), mb11_can⟩
theorem mv11_can : Cond.instanceMethod (iy i11_can) ∈ gT ∧ Cond.selects (iy i11_can).cls (iy i11_can) (iy i11_can) ∈ gT ∧ vwCl[11]?.map (fun q => q.1) = some (iy i11_can).cls := ⟨(gk3 206 rfl rfl), (gk3 207 rfl rfl), rfl⟩
theorem cv_x11_189 : CVw "CallSteps" 189 i11_can 0 11 := ⟨cb_x11_189, mv11_can⟩
theorem nmh_jInteger : "java/lang/Integer" ≠ "java/lang/invoke/MethodHandle" ∧ "java/lang/Integer" ≠ "java/lang/invoke/VarHandle" := by decide +kernel
theorem mbJ_bitCount : Cond.code (iy iJ_bitCount) (ib iJ_bitCount) (iL iJ_bitCount) (ir iJ_bitCount) ∈ gT ∧ Cond.initialized (iy iJ_bitCount).cls ∈ gT ∧ ((iy iJ_bitCount).cls ≠ "java/lang/invoke/MethodHandle" ∧ (iy iJ_bitCount).cls ≠ "java/lang/invoke/VarHandle" ∧ (parseMethodDescriptor (iy iJ_bitCount).desc).map (fun d => d.parameters.length) = some 1) := ⟨(gk4 3 rfl rfl), (gk1 14 rfl rfl), nmh_jInteger.1, nmh_jInteger.2, pd_1⟩
theorem cb_x11_193 : CB "CallSteps" 193 iJ_bitCount 1 := ⟨(gk4 1 rfl rfl), mbJ_bitCount⟩
theorem cs_x11_193 : CSw "CallSteps" 193 iJ_bitCount 1 := ⟨cb_x11_193, (gk4 2 rfl rfl)⟩
theorem kc_x11_198 : Cond.constant "CallSteps" 198 (1103515245 : Int32) ∈ gT := (gk4 7 rfl rfl)
theorem k_s_12345 : (Int16.ofInt (12345)).toInt32 = (12345 : Int32) := by decide +kernel
theorem mb11_bitByNumber : Cond.code (iy i11_bitByNumber) (ib i11_bitByNumber) (iL i11_bitByNumber) (ir i11_bitByNumber) ∈ gT ∧ Cond.initialized (iy i11_bitByNumber).cls ∈ gT ∧ ((iy i11_bitByNumber).cls ≠ "java/lang/invoke/MethodHandle" ∧ (iy i11_bitByNumber).cls ≠ "java/lang/invoke/VarHandle" ∧ (parseMethodDescriptor (iy i11_bitByNumber).desc).map (fun d => d.parameters.length) = some 2) := ⟨(gk4 10 rfl rfl), (gk1 1 rfl rfl), nmh_x11.1, nmh_x11.2, pd_7⟩
theorem cb_x11_199 : CB "CallSteps" 199 i11_bitByNumber 2 := ⟨(gk4 8 rfl rfl), mb11_bitByNumber⟩
theorem cs_x11_199 : CSw "CallSteps" 199 i11_bitByNumber 2 := ⟨cb_x11_199, (gk4 9 rfl rfl)⟩
theorem cb_x11_185 : CB "CallSteps" 185 i6_stepBy 2 := ⟨(gk3 231 rfl rfl), mb6_stepBy⟩
theorem cv_x11_185 : CVw "CallSteps" 185 i6_stepBy 2 6 := ⟨cb_x11_185, mv6_stepBy⟩
theorem mb5_startAlike : Cond.code (iy i5_startAlike) (ib i5_startAlike) (iL i5_startAlike) (ir i5_startAlike) ∈ gT ∧ Cond.initialized (iy i5_startAlike).cls ∈ gT ∧ ((iy i5_startAlike).cls ≠ "java/lang/invoke/MethodHandle" ∧ (iy i5_startAlike).cls ≠ "java/lang/invoke/VarHandle" ∧ (parseMethodDescriptor (iy i5_startAlike).desc).map (fun d => d.parameters.length) = some 2) := ⟨(gk6 0 rfl rfl), (gk1 12 rfl rfl), nmh_x5.1, nmh_x5.2, pd_13⟩
theorem cb_x11_335 : CB "CallSteps" 335 i5_startAlike 2 := ⟨(gk5 237 rfl rfl), mb5_startAlike⟩
theorem mv5_startAlike : Cond.instanceMethod (iy i5_startAlike) ∈ gT ∧ Cond.selects (iy i5_startAlike).cls (iy i5_startAlike) (iy i5_startAlike) ∈ gT ∧ vwCl[5]?.map (fun q => q.1) = some (iy i5_startAlike).cls := ⟨(gk5 238 rfl rfl), (gk5 239 rfl rfl), rfl⟩
theorem cv_x11_335 : CVw "CallSteps" 335 i5_startAlike 2 5 := ⟨cb_x11_335, mv5_startAlike⟩
theorem mb5_firstGoodNode : Cond.code (iy i5_firstGoodNode) (ib i5_firstGoodNode) (iL i5_firstGoodNode) (ir i5_firstGoodNode) ∈ gT ∧ Cond.initialized (iy i5_firstGoodNode).cls ∈ gT ∧ ((iy i5_firstGoodNode).cls ≠ "java/lang/invoke/MethodHandle" ∧ (iy i5_firstGoodNode).cls ≠ "java/lang/invoke/VarHandle" ∧ (parseMethodDescriptor (iy i5_firstGoodNode).desc).map (fun d => d.parameters.length) = some 0) := ⟨(gk5 220 rfl rfl), (gk1 12 rfl rfl), nmh_x5.1, nmh_x5.2, pd_24⟩
theorem cb_x11_326 : CB "CallSteps" 326 i5_firstGoodNode 0 := ⟨(gk5 217 rfl rfl), mb5_firstGoodNode⟩
theorem mv5_firstGoodNode : Cond.instanceMethod (iy i5_firstGoodNode) ∈ gT ∧ Cond.selects (iy i5_firstGoodNode).cls (iy i5_firstGoodNode) (iy i5_firstGoodNode) ∈ gT ∧ vwCl[5]?.map (fun q => q.1) = some (iy i5_firstGoodNode).cls := ⟨(gk5 218 rfl rfl), (gk5 219 rfl rfl), rfl⟩
theorem cv_x11_326 : CVw "CallSteps" 326 i5_firstGoodNode 0 5 := ⟨cb_x11_326, mv5_firstGoodNode⟩
theorem mb5_depthOf : Cond.code (iy i5_depthOf) (ib i5_depthOf) (iL i5_depthOf) (ir i5_depthOf) ∈ gT ∧ Cond.initialized (iy i5_depthOf).cls ∈ gT ∧ ((iy i5_depthOf).cls ≠ "java/lang/invoke/MethodHandle" ∧ (iy i5_depthOf).cls ≠ "java/lang/invoke/VarHandle" ∧ (parseMethodDescriptor (iy i5_depthOf).desc).map (fun d => d.parameters.length) = some 1) := ⟨(gk5 224 rfl rfl), (gk1 12 rfl rfl), nmh_x5.1, nmh_x5.2, pd_1⟩
theorem cb_x11_329 : CB "CallSteps" 329 i5_depthOf 1 := ⟨(gk5 221 rfl rfl), mb5_depthOf⟩
theorem mv5_depthOf : Cond.instanceMethod (iy i5_depthOf) ∈ gT ∧ Cond.selects (iy i5_depthOf).cls (iy i5_depthOf) (iy i5_depthOf) ∈ gT ∧ vwCl[5]?.map (fun q => q.1) = some (iy i5_depthOf).cls := ⟨(gk5 222 rfl rfl), (gk5 223 rfl rfl), rfl⟩
theorem cv_x11_329 : CVw "CallSteps" 329 i5_depthOf 1 5 := ⟨cb_x11_329, mv5_depthOf⟩
theorem mb5_signOnTheWay : Cond.code (iy i5_signOnTheWay) (ib i5_signOnTheWay) (iL i5_signOnTheWay) (ir i5_signOnTheWay) ∈ gT ∧ Cond.initialized (iy i5_signOnTheWay).cls ∈ gT ∧ ((iy i5_signOnTheWay).cls ≠ "java/lang/invoke/MethodHandle" ∧ (iy i5_signOnTheWay).cls ≠ "java/lang/invoke/VarHandle" ∧ (parseMethodDescriptor (iy i5_signOnTheWay).desc).map (fun d => d.parameters.length) = some 2) := ⟨(gk5 232 rfl rfl), (gk1 12 rfl rfl), nmh_x5.1, nmh_x5.2, pd_7⟩
theorem cb_x11_332 : CB "CallSteps" 332 i5_signOnTheWay 2 := ⟨(gk5 229 rfl rfl), mb5_signOnTheWay⟩
theorem mv5_signOnTheWay : Cond.instanceMethod (iy i5_signOnTheWay) ∈ gT ∧ Cond.selects (iy i5_signOnTheWay).cls (iy i5_signOnTheWay) (iy i5_signOnTheWay) ∈ gT ∧ vwCl[5]?.map (fun q => q.1) = some (iy i5_signOnTheWay).cls := ⟨(gk5 230 rfl rfl), (gk5 231 rfl rfl), rfl⟩
theorem cv_x11_332 : CVw "CallSteps" 332 i5_signOnTheWay 2 5 := ⟨cb_x11_332, mv5_signOnTheWay⟩
theorem mb5_countWords : Cond.code (iy i5_countWords) (ib i5_countWords) (iL i5_countWords) (ir i5_countWords) ∈ gT ∧ Cond.initialized (iy i5_countWords).cls ∈ gT ∧ ((iy i5_countWords).cls ≠ "java/lang/invoke/MethodHandle" ∧ (iy i5_countWords).cls ≠ "java/lang/invoke/VarHandle" ∧ (parseMethodDescriptor (iy i5_countWords).desc).map (fun d => d.parameters.length) = some 1) := ⟨(gk5 204 rfl rfl), (gk1 12 rfl rfl), nmh_x5.1, nmh_x5.2, pd_5⟩
theorem cb_x11_322 : CB "CallSteps" 322 i5_countWords 1 := ⟨(gk5 201 rfl rfl), mb5_countWords⟩
theorem mv5_countWords : Cond.instanceMethod (iy i5_countWords) ∈ gT ∧ Cond.selects (iy i5_countWords).cls (iy i5_countWords) (iy i5_countWords) ∈ gT ∧ vwCl[5]?.map (fun q => q.1) = some (iy i5_countWords).cls := ⟨(gk5 202 rfl rfl), (gk5 203 rfl rfl), rfl⟩
theorem cv_x11_322 : CVw "CallSteps" 322 i5_countWords 1 5 := ⟨cb_x11_322, mv5_countWords⟩
theorem mb7_hasRuleFor : Cond.code (iy i7_hasRuleFor) (ib i7_hasRuleFor) (iL i7_hasRuleFor) (ir i7_hasRuleFor) ∈ gT ∧ Cond.initialized (iy i7_hasRuleFor).cls ∈ gT ∧ ((iy i7_hasRuleFor).cls ≠ "java/lang/invoke/MethodHandle" ∧ (iy i7_hasRuleFor).cls ≠ "java/lang/invoke/VarHandle" ∧ (parseMethodDescriptor (iy i7_hasRuleFor).desc).map (fun d => d.parameters.length) = some 3) := ⟨(gk5 72 rfl rfl), (gk1 3 rfl rfl), nmh_x7.1, nmh_x7.2, pd_19⟩
theorem cb_x11_303 : CB "CallSteps" 303 i7_hasRuleFor 3 := ⟨(gk5 69 rfl rfl), mb7_hasRuleFor⟩
theorem mv7_hasRuleFor : Cond.instanceMethod (iy i7_hasRuleFor) ∈ gT ∧ Cond.selects (iy i7_hasRuleFor).cls (iy i7_hasRuleFor) (iy i7_hasRuleFor) ∈ gT ∧ vwCl[7]?.map (fun q => q.1) = some (iy i7_hasRuleFor).cls := ⟨(gk5 70 rfl rfl), (gk5 71 rfl rfl), rfl⟩
theorem cv_x11_303 : CVw "CallSteps" 303 i7_hasRuleFor 3 7 := ⟨cb_x11_303, mv7_hasRuleFor⟩
theorem pd_46 : (parseMethodDescriptor "(LCallSteps$Program;)Z").map (fun d => d.parameters.length) = some 1 := by decide +kernel
theorem mb8_readsProgram : Cond.code (iy i8_readsProgram) (ib i8_readsProgram) (iL i8_readsProgram) (ir i8_readsProgram) ∈ gT ∧ Cond.initialized (iy i8_readsProgram).cls ∈ gT ∧ ((iy i8_readsProgram).cls ≠ "java/lang/invoke/MethodHandle" ∧ (iy i8_readsProgram).cls ≠ "java/lang/invoke/VarHandle" ∧ (parseMethodDescriptor (iy i8_readsProgram).desc).map (fun d => d.parameters.length) = some 1) := ⟨(gk2 178 rfl rfl), (gk1 6 rfl rfl), nmh_x8.1, nmh_x8.2, pd_46⟩
theorem cb_x11_107 : CB "CallSteps" 107 i8_readsProgram 1 := ⟨(gk2 175 rfl rfl), mb8_readsProgram⟩
theorem mv8_readsProgram : Cond.instanceMethod (iy i8_readsProgram) ∈ gT ∧ Cond.selects (iy i8_readsProgram).cls (iy i8_readsProgram) (iy i8_readsProgram) ∈ gT ∧ vwCl[8]?.map (fun q => q.1) = some (iy i8_readsProgram).cls := ⟨(gk2 176 rfl rfl), (gk2 177 rfl rfl), rfl⟩
theorem cv_x11_107 : CVw "CallSteps" 107 i8_readsProgram 1 8 := ⟨cb_x11_107, mv8_readsProgram⟩
theorem cb_x11_111 : CB "CallSteps" 111 i6_forget 0 := ⟨(gk3 96 rfl rfl), mb6_forget⟩
theorem cv_x11_111 : CVw "CallSteps" 111 i6_forget 0 6 := ⟨cb_x11_111, mv6_forget⟩
theorem mb0_forget : Cond.code (iy i0_forget) (ib i0_forget) (iL i0_forget) (ir i0_forget) ∈ gT ∧ Cond.initialized (iy i0_forget).cls ∈ gT ∧ ((iy i0_forget).cls ≠ "java/lang/invoke/MethodHandle" ∧ (iy i0_forget).cls ≠ "java/lang/invoke/VarHandle" ∧ (parseMethodDescriptor (iy i0_forget).desc).map (fun d => d.parameters.length) = some 0) := ⟨(gk3 103 rfl rfl), (gk1 8 rfl rfl), nmh_x0.1, nmh_x0.2, pd_3⟩
theorem cb_x11_114 : CB "CallSteps" 114 i0_forget 0 := ⟨(gk3 100 rfl rfl), mb0_forget⟩
theorem mv0_forget : Cond.instanceMethod (iy i0_forget) ∈ gT ∧ Cond.selects (iy i0_forget).cls (iy i0_forget) (iy i0_forget) ∈ gT ∧ vwCl[0]?.map (fun q => q.1) = some (iy i0_forget).cls := ⟨(gk3 101 rfl rfl), (gk3 102 rfl rfl), rfl⟩
theorem cv_x11_114 : CVw "CallSteps" 114 i0_forget 0 0 := ⟨cb_x11_114, mv0_forget⟩
theorem mb0_takeBack : Cond.code (iy i0_takeBack) (ib i0_takeBack) (iL i0_takeBack) (ir i0_takeBack) ∈ gT ∧ Cond.initialized (iy i0_takeBack).cls ∈ gT ∧ ((iy i0_takeBack).cls ≠ "java/lang/invoke/MethodHandle" ∧ (iy i0_takeBack).cls ≠ "java/lang/invoke/VarHandle" ∧ (parseMethodDescriptor (iy i0_takeBack).desc).map (fun d => d.parameters.length) = some 1) := ⟨(gk4 18 rfl rfl), (gk1 8 rfl rfl), nmh_x0.1, nmh_x0.2, pd_43⟩
theorem cb_x11_202 : CB "CallSteps" 202 i0_takeBack 1 := ⟨(gk4 15 rfl rfl), mb0_takeBack⟩
theorem mv0_takeBack : Cond.instanceMethod (iy i0_takeBack) ∈ gT ∧ Cond.selects (iy i0_takeBack).cls (iy i0_takeBack) (iy i0_takeBack) ∈ gT ∧ vwCl[0]?.map (fun q => q.1) = some (iy i0_takeBack).cls := ⟨(gk4 16 rfl rfl), (gk4 17 rfl rfl), rfl⟩
theorem cv_x11_202 : CVw "CallSteps" 202 i0_takeBack 1 0 := ⟨cb_x11_202, mv0_takeBack⟩
theorem pd_47 : (parseMethodDescriptor "(LCallSteps$Costs;LCallSteps$Program;ILCallSteps$Place;)V").map (fun d => d.parameters.length) = some 4 := by decide +kernel
theorem mb10_follow : Cond.code (iy i10_follow) (ib i10_follow) (iL i10_follow) (ir i10_follow) ∈ gT ∧ Cond.initialized (iy i10_follow).cls ∈ gT ∧ ((iy i10_follow).cls ≠ "java/lang/invoke/MethodHandle" ∧ (iy i10_follow).cls ≠ "java/lang/invoke/VarHandle" ∧ (parseMethodDescriptor (iy i10_follow).desc).map (fun d => d.parameters.length) = some 4) := ⟨(gk4 123 rfl rfl), (gk1 10 rfl rfl), nmh_x10.1, nmh_x10.2, pd_47⟩
theorem cb_x11_218 : CB "CallSteps" 218 i10_follow 4 := ⟨(gk4 120 rfl rfl), mb10_follow⟩
theorem mv10_follow : Cond.instanceMethod (iy i10_follow) ∈ gT ∧ Cond.selects (iy i10_follow).cls (iy i10_follow) (iy i10_follow) ∈ gT ∧ vwCl[10]?.map (fun q => q.1) = some (iy i10_follow).cls := ⟨(gk4 121 rfl rfl), (gk4 122 rfl rfl), rfl⟩
theorem cv_x11_218 : CVw "CallSteps" 218 i10_follow 4 10 := ⟨cb_x11_218, mv10_follow⟩
theorem fg_x11_222 : FG "CallSteps" 222 10 3 0 := ⟨rfl, RX10, TX10, 4, rfl, by decide, (gk1 235 rfl rfl), ing10⟩
theorem fg_x11_225 : FG "CallSteps" 225 10 2 0 := ⟨rfl, RX10, TX10, 4, rfl, by decide, (gk1 233 rfl rfl), ing10⟩
theorem mb10_ruleAt : Cond.code (iy i10_ruleAt) (ib i10_ruleAt) (iL i10_ruleAt) (ir i10_ruleAt) ∈ gT ∧ Cond.initialized (iy i10_ruleAt).cls ∈ gT ∧ ((iy i10_ruleAt).cls ≠ "java/lang/invoke/MethodHandle" ∧ (iy i10_ruleAt).cls ≠ "java/lang/invoke/VarHandle" ∧ (parseMethodDescriptor (iy i10_ruleAt).desc).map (fun d => d.parameters.length) = some 1) := ⟨(gk4 149 rfl rfl), (gk1 10 rfl rfl), nmh_x10.1, nmh_x10.2, pd_1⟩
theorem cb_x11_228 : CB "CallSteps" 228 i10_ruleAt 1 := ⟨(gk4 146 rfl rfl), mb10_ruleAt⟩
theorem mv10_ruleAt : Cond.instanceMethod (iy i10_ruleAt) ∈ gT ∧ Cond.selects (iy i10_ruleAt).cls (iy i10_ruleAt) (iy i10_ruleAt) ∈ gT ∧ vwCl[10]?.map (fun q => q.1) = some (iy i10_ruleAt).cls := ⟨(gk4 147 rfl rfl), (gk4 148 rfl rfl), rfl⟩
theorem cv_x11_228 : CVw "CallSteps" 228 i10_ruleAt 1 10 := ⟨cb_x11_228, mv10_ruleAt⟩
theorem fg_x12_113 : FG "CallStepsModel" 113 12 0 0 := ⟨rfl, RX12, TX12, 55, rfl, by decide, (gk6 103 rfl rfl), ing12⟩
theorem fp_x12_113 : FP "CallStepsModel" 113 12 0 0 false .int := ⟨rfl, RX12, TX12, 55, tyX12, ⟨rfl, by decide, (gk6 103 rfl rfl), ing12⟩, tyX12_ok, nmX12, rfl, rfl, rfl⟩
theorem fg_x12_7 : FG "CallStepsModel" 7 12 1 2 := ⟨rfl, RX12, TX12, 55, rfl, by decide, (gk6 104 rfl rfl), ing12⟩
theorem fg_x12_131 : FG "CallStepsModel" 131 12 5 0 := ⟨rfl, RX12, TX12, 55, rfl, by decide, (gk6 108 rfl rfl), ing12⟩
theorem fg_x12_240 : FG "CallStepsModel" 240 12 23 0 := ⟨rfl, RX12, TX12, 55, rfl, by decide, (gk6 126 rfl rfl), ing12⟩
theorem fg_x12_142 : FG "CallStepsModel" 142 12 7 0 := ⟨rfl, RX12, TX12, 55, rfl, by decide, (gk6 110 rfl rfl), ing12⟩
theorem fg_x12_41 : FG "CallStepsModel" 41 12 25 2 := ⟨rfl, RX12, TX12, 55, rfl, by decide, (gk6 128 rfl rfl), ing12⟩
theorem fg_x12_44 : FG "CallStepsModel" 44 12 26 2 := ⟨rfl, RX12, TX12, 55, rfl, by decide, (gk6 129 rfl rfl), ing12⟩
theorem fg_x12_47 : FG "CallStepsModel" 47 12 27 2 := ⟨rfl, RX12, TX12, 55, rfl, by decide, (gk6 130 rfl rfl), ing12⟩
theorem k_b_21 : (Int8.ofInt (21)).toInt32 = (21 : Int32) := by decide +kernel
theorem nmh_x12 : "CallStepsModel" ≠ "java/lang/invoke/MethodHandle" ∧ "CallStepsModel" ≠ "java/lang/invoke/VarHandle" := by decide +kernel
theorem pd_48 : (parseMethodDescriptor "(III)I").map (fun d => d.parameters.length) = some 3 := by decide +kernel
theorem mb12_cell : Cond.code (iy i12_cell) (ib i12_cell) (iL i12_cell) (ir i12_cell) ∈ gT ∧ Cond.initialized (iy i12_cell).cls ∈ gT ∧ ((iy i12_cell).cls ≠ "java/lang/invoke/MethodHandle" ∧ (iy i12_cell).cls ≠ "java/lang/invoke/VarHandle" ∧ (parseMethodDescriptor (iy i12_cell).desc).map (fun d => d.parameters.length) = some 3) := ⟨(gk7 237 rfl rfl), (gk1 13 rfl rfl), nmh_x12.1, nmh_x12.2, pd_48⟩
theorem cb_x12_281 : CB "CallStepsModel" 281 i12_cell 3 := ⟨(gk7 234 rfl rfl), mb12_cell⟩
theorem mv12_cell : Cond.instanceMethod (iy i12_cell) ∈ gT ∧ Cond.selects (iy i12_cell).cls (iy i12_cell) (iy i12_cell) ∈ gT ∧ vwCl[12]?.map (fun q => q.1) = some (iy i12_cell).cls := ⟨(gk7 236 rfl rfl), (gp6 11 rfl), rfl⟩
theorem cv_x12_281 : CVw "CallStepsModel" 281 i12_cell 3 12 := ⟨cb_x12_281, mv12_cell⟩
theorem kc_x12_116 : Cond.constantLong "CallStepsModel" 116 (-1 : Int64) ∈ gT := (gk7 213 rfl rfl)
theorem kc_x12_118 : Cond.constantLong "CallStepsModel" 118 (1000000000000000 : Int64) ∈ gT := (gk8 17 rfl rfl)
theorem fg_x12_57 : FG "CallStepsModel" 57 12 32 2 := ⟨rfl, RX12, TX12, 55, rfl, by decide, (gk6 135 rfl rfl), ing12⟩
theorem pd_49 : (parseMethodDescriptor "([JIII)J").map (fun d => d.parameters.length) = some 4 := by decide +kernel
theorem mb12_costOf : Cond.code (iy i12_costOf) (ib i12_costOf) (iL i12_costOf) (ir i12_costOf) ∈ gT ∧ Cond.initialized (iy i12_costOf).cls ∈ gT ∧ ((iy i12_costOf).cls ≠ "java/lang/invoke/MethodHandle" ∧ (iy i12_costOf).cls ≠ "java/lang/invoke/VarHandle" ∧ (parseMethodDescriptor (iy i12_costOf).desc).map (fun d => d.parameters.length) = some 4) := ⟨(gk8 5 rfl rfl), (gk1 13 rfl rfl), nmh_x12.1, nmh_x12.2, pd_49⟩
theorem cb_x12_299 : CB "CallStepsModel" 299 i12_costOf 4 := ⟨(gk8 2 rfl rfl), mb12_costOf⟩
theorem mv12_costOf : Cond.instanceMethod (iy i12_costOf) ∈ gT ∧ Cond.selects (iy i12_costOf).cls (iy i12_costOf) (iy i12_costOf) ∈ gT ∧ vwCl[12]?.map (fun q => q.1) = some (iy i12_costOf).cls := ⟨(gk8 4 rfl rfl), (gp6 13 rfl), rfl⟩
theorem cv_x12_299 : CVw "CallStepsModel" 299 i12_costOf 4 12 := ⟨cb_x12_299, mv12_costOf⟩
theorem mb12_sum : Cond.code (iy i12_sum) (ib i12_sum) (iL i12_sum) (ir i12_sum) ∈ gT ∧ Cond.initialized (iy i12_sum).cls ∈ gT ∧ ((iy i12_sum).cls ≠ "java/lang/invoke/MethodHandle" ∧ (iy i12_sum).cls ≠ "java/lang/invoke/VarHandle" ∧ (parseMethodDescriptor (iy i12_sum).desc).map (fun d => d.parameters.length) = some 2) := ⟨(gk8 16 rfl rfl), (gk1 13 rfl rfl), nmh_x12.1, nmh_x12.2, pd_10⟩
theorem cb_x12_292 : CB "CallStepsModel" 292 i12_sum 2 := ⟨(gk8 14 rfl rfl), mb12_sum⟩
theorem cs_x12_292 : CSw "CallStepsModel" 292 i12_sum 2 := ⟨cb_x12_292, (gk8 15 rfl rfl)⟩
theorem mb12_lesser : Cond.code (iy i12_lesser) (ib i12_lesser) (iL i12_lesser) (ir i12_lesser) ∈ gT ∧ Cond.initialized (iy i12_lesser).cls ∈ gT ∧ ((iy i12_lesser).cls ≠ "java/lang/invoke/MethodHandle" ∧ (iy i12_lesser).cls ≠ "java/lang/invoke/VarHandle" ∧ (parseMethodDescriptor (iy i12_lesser).desc).map (fun d => d.parameters.length) = some 2) := ⟨(gk8 20 rfl rfl), (gk1 13 rfl rfl), nmh_x12.1, nmh_x12.2, pd_10⟩
theorem cb_x12_296 : CB "CallStepsModel" 296 i12_lesser 2 := ⟨(gk8 18 rfl rfl), mb12_lesser⟩
theorem cs_x12_296 : CSw "CallStepsModel" 296 i12_lesser 2 := ⟨cb_x12_296, (gk8 19 rfl rfl)⟩
theorem fg_x12_278 : FG "CallStepsModel" 278 12 30 0 := ⟨rfl, RX12, TX12, 55, rfl, by decide, (gk6 133 rfl rfl), ing12⟩
theorem mb12_goesTo : Cond.code (iy i12_goesTo) (ib i12_goesTo) (iL i12_goesTo) (ir i12_goesTo) ∈ gT ∧ Cond.initialized (iy i12_goesTo).cls ∈ gT ∧ ((iy i12_goesTo).cls ≠ "java/lang/invoke/MethodHandle" ∧ (iy i12_goesTo).cls ≠ "java/lang/invoke/VarHandle" ∧ (parseMethodDescriptor (iy i12_goesTo).desc).map (fun d => d.parameters.length) = some 2) := ⟨(gk8 13 rfl rfl), (gk1 13 rfl rfl), nmh_x12.1, nmh_x12.2, pd_7⟩
theorem cb_x12_306 : CB "CallStepsModel" 306 i12_goesTo 2 := ⟨(gk8 10 rfl rfl), mb12_goesTo⟩
theorem mv12_goesTo : Cond.instanceMethod (iy i12_goesTo) ∈ gT ∧ Cond.selects (iy i12_goesTo).cls (iy i12_goesTo) (iy i12_goesTo) ∈ gT ∧ vwCl[12]?.map (fun q => q.1) = some (iy i12_goesTo).cls := ⟨(gk8 12 rfl rfl), (gp6 15 rfl), rfl⟩
theorem cv_x12_306 : CVw "CallStepsModel" 306 i12_goesTo 2 12 := ⟨cb_x12_306, mv12_goesTo⟩
theorem fg_x12_16 : FG "CallStepsModel" 16 12 3 2 := ⟨rfl, RX12, TX12, 55, rfl, by decide, (gk6 106 rfl rfl), ing12⟩
theorem mb12_isOf : Cond.code (iy i12_isOf) (ib i12_isOf) (iL i12_isOf) (ir i12_isOf) ∈ gT ∧ Cond.initialized (iy i12_isOf).cls ∈ gT ∧ ((iy i12_isOf).cls ≠ "java/lang/invoke/MethodHandle" ∧ (iy i12_isOf).cls ≠ "java/lang/invoke/VarHandle" ∧ (parseMethodDescriptor (iy i12_isOf).desc).map (fun d => d.parameters.length) = some 2) := ⟨(gk7 191 rfl rfl), (gk1 13 rfl rfl), nmh_x12.1, nmh_x12.2, pd_13⟩
theorem cb_x12_134 : CB "CallStepsModel" 134 i12_isOf 2 := ⟨(gk7 189 rfl rfl), mb12_isOf⟩
theorem cs_x12_134 : CSw "CallStepsModel" 134 i12_isOf 2 := ⟨cb_x12_134, (gk7 190 rfl rfl)⟩
theorem mb12_ruleOf : Cond.code (iy i12_ruleOf) (ib i12_ruleOf) (iL i12_ruleOf) (ir i12_ruleOf) ∈ gT ∧ Cond.initialized (iy i12_ruleOf).cls ∈ gT ∧ ((iy i12_ruleOf).cls ≠ "java/lang/invoke/MethodHandle" ∧ (iy i12_ruleOf).cls ≠ "java/lang/invoke/VarHandle" ∧ (parseMethodDescriptor (iy i12_ruleOf).desc).map (fun d => d.parameters.length) = some 2) := ⟨(gk7 148 rfl rfl), (gk1 13 rfl rfl), nmh_x12.1, nmh_x12.2, pd_7⟩
theorem cb_x12_138 : CB "CallStepsModel" 138 i12_ruleOf 2 := ⟨(gk7 145 rfl rfl), mb12_ruleOf⟩
theorem mv12_ruleOf : Cond.instanceMethod (iy i12_ruleOf) ∈ gT ∧ Cond.selects (iy i12_ruleOf).cls (iy i12_ruleOf) (iy i12_ruleOf) ∈ gT ∧ vwCl[12]?.map (fun q => q.1) = some (iy i12_ruleOf).cls := ⟨(gk7 147 rfl rfl), (gp5 15 rfl), rfl⟩
theorem cv_x12_138 : CVw "CallStepsModel" 138 i12_ruleOf 2 12 := ⟨cb_x12_138, mv12_ruleOf⟩
theorem fg_x12_236 : FG "CallStepsModel" 236 12 19 0 := ⟨rfl, RX12, TX12, 55, rfl, by decide, (gk6 122 rfl rfl), ing12⟩
theorem fg_x12_255 : FG "CallStepsModel" 255 12 21 0 := ⟨rfl, RX12, TX12, 55, rfl, by decide, (gk6 124 rfl rfl), ing12⟩
theorem fg_x12_252 : FG "CallStepsModel" 252 12 20 0 := ⟨rfl, RX12, TX12, 55, rfl, by decide, (gk6 123 rfl rfl), ing12⟩
theorem fg_x12_29 : FG "CallStepsModel" 29 12 17 2 := ⟨rfl, RX12, TX12, 55, rfl, by decide, (gk6 120 rfl rfl), ing12⟩
theorem mb12_isHeadOf : Cond.code (iy i12_isHeadOf) (ib i12_isHeadOf) (iL i12_isHeadOf) (ir i12_isHeadOf) ∈ gT ∧ Cond.initialized (iy i12_isHeadOf).cls ∈ gT ∧ ((iy i12_isHeadOf).cls ≠ "java/lang/invoke/MethodHandle" ∧ (iy i12_isHeadOf).cls ≠ "java/lang/invoke/VarHandle" ∧ (parseMethodDescriptor (iy i12_isHeadOf).desc).map (fun d => d.parameters.length) = some 3) := ⟨(gk7 188 rfl rfl), (gk1 13 rfl rfl), nmh_x12.1, nmh_x12.2, pd_19⟩
theorem cb_x12_268 : CB "CallStepsModel" 268 i12_isHeadOf 3 := ⟨(gk7 185 rfl rfl), mb12_isHeadOf⟩
theorem mv12_isHeadOf : Cond.instanceMethod (iy i12_isHeadOf) ∈ gT ∧ Cond.selects (iy i12_isHeadOf).cls (iy i12_isHeadOf) (iy i12_isHeadOf) ∈ gT ∧ vwCl[12]?.map (fun q => q.1) = some (iy i12_isHeadOf).cls := ⟨(gk7 187 rfl rfl), (gp6 4 rfl), rfl⟩
theorem cv_x12_268 : CVw "CallStepsModel" 268 i12_isHeadOf 3 12 := ⟨cb_x12_268, mv12_isHeadOf⟩
theorem mb12_signs : Cond.code (iy i12_signs) (ib i12_signs) (iL i12_signs) (ir i12_signs) ∈ gT ∧ Cond.initialized (iy i12_signs).cls ∈ gT ∧ ((iy i12_signs).cls ≠ "java/lang/invoke/MethodHandle" ∧ (iy i12_signs).cls ≠ "java/lang/invoke/VarHandle" ∧ (parseMethodDescriptor (iy i12_signs).desc).map (fun d => d.parameters.length) = some 0) := ⟨(gk7 229 rfl rfl), (gk1 13 rfl rfl), nmh_x12.1, nmh_x12.2, pd_24⟩
theorem cb_x12_128 : CB "CallStepsModel" 128 i12_signs 0 := ⟨(gk7 226 rfl rfl), mb12_signs⟩
theorem mv12_signs : Cond.instanceMethod (iy i12_signs) ∈ gT ∧ Cond.selects (iy i12_signs).cls (iy i12_signs) (iy i12_signs) ∈ gT ∧ vwCl[12]?.map (fun q => q.1) = some (iy i12_signs).cls := ⟨(gk7 228 rfl rfl), (gp6 9 rfl), rfl⟩
theorem cv_x12_128 : CVw "CallStepsModel" 128 i12_signs 0 12 := ⟨cb_x12_128, mv12_signs⟩
theorem fg_x12_95 : FG "CallStepsModel" 95 12 45 2 := ⟨rfl, RX12, TX12, 55, rfl, by decide, (gk6 148 rfl rfl), ing12⟩
theorem fg_x12_92 : FG "CallStepsModel" 92 12 44 2 := ⟨rfl, RX12, TX12, 55, rfl, by decide, (gk6 147 rfl rfl), ing12⟩
theorem fg_x12_149 : FG "CallStepsModel" 149 12 8 0 := ⟨rfl, RX12, TX12, 55, rfl, by decide, (gk6 111 rfl rfl), ing12⟩
theorem fg_x12_22 : FG "CallStepsModel" 22 12 6 2 := ⟨rfl, RX12, TX12, 55, rfl, by decide, (gk6 109 rfl rfl), ing12⟩
theorem fg_x12_152 : FG "CallStepsModel" 152 12 10 0 := ⟨rfl, RX12, TX12, 55, rfl, by decide, (gk6 113 rfl rfl), ing12⟩
theorem fp_x12_152 : FP "CallStepsModel" 152 12 10 0 false .int := ⟨rfl, RX12, TX12, 55, tyX12, ⟨rfl, by decide, (gk6 113 rfl rfl), ing12⟩, tyX12_ok, nmX12, rfl, rfl, rfl⟩
theorem fg_x12_162 : FG "CallStepsModel" 162 12 12 0 := ⟨rfl, RX12, TX12, 55, rfl, by decide, (gk6 115 rfl rfl), ing12⟩
theorem fp_x12_162 : FP "CallStepsModel" 162 12 12 0 false .int := ⟨rfl, RX12, TX12, 55, tyX12, ⟨rfl, by decide, (gk6 115 rfl rfl), ing12⟩, tyX12_ok, nmX12, rfl, rfl, rfl⟩
theorem fg_x12_165 : FG "CallStepsModel" 165 12 11 0 := ⟨rfl, RX12, TX12, 55, rfl, by decide, (gk6 114 rfl rfl), ing12⟩
theorem fp_x12_165 : FP "CallStepsModel" 165 12 11 0 false .int := ⟨rfl, RX12, TX12, 55, tyX12, ⟨rfl, by decide, (gk6 114 rfl rfl), ing12⟩, tyX12_ok, nmX12, rfl, rfl, rfl⟩
theorem mb12_byteAt : Cond.code (iy i12_byteAt) (ib i12_byteAt) (iL i12_byteAt) (ir i12_byteAt) ∈ gT ∧ Cond.initialized (iy i12_byteAt).cls ∈ gT ∧ ((iy i12_byteAt).cls ≠ "java/lang/invoke/MethodHandle" ∧ (iy i12_byteAt).cls ≠ "java/lang/invoke/VarHandle" ∧ (parseMethodDescriptor (iy i12_byteAt).desc).map (fun d => d.parameters.length) = some 1) := ⟨(gk7 64 rfl rfl), (gk1 13 rfl rfl), nmh_x12.1, nmh_x12.2, pd_1⟩
theorem cb_x12_155 : CB "CallStepsModel" 155 i12_byteAt 1 := ⟨(gk7 61 rfl rfl), mb12_byteAt⟩
theorem mv12_byteAt : Cond.instanceMethod (iy i12_byteAt) ∈ gT ∧ Cond.selects (iy i12_byteAt).cls (iy i12_byteAt) (iy i12_byteAt) ∈ gT ∧ vwCl[12]?.map (fun q => q.1) = some (iy i12_byteAt).cls := ⟨(gk7 63 rfl rfl), (gp5 0 rfl), rfl⟩
theorem cv_x12_155 : CVw "CallStepsModel" 155 i12_byteAt 1 12 := ⟨cb_x12_155, mv12_byteAt⟩
theorem mb12_isSmall : Cond.code (iy i12_isSmall) (ib i12_isSmall) (iL i12_isSmall) (ir i12_isSmall) ∈ gT ∧ Cond.initialized (iy i12_isSmall).cls ∈ gT ∧ ((iy i12_isSmall).cls ≠ "java/lang/invoke/MethodHandle" ∧ (iy i12_isSmall).cls ≠ "java/lang/invoke/VarHandle" ∧ (parseMethodDescriptor (iy i12_isSmall).desc).map (fun d => d.parameters.length) = some 1) := ⟨(gk7 67 rfl rfl), (gk1 13 rfl rfl), nmh_x12.1, nmh_x12.2, pd_12⟩
theorem cb_x12_168 : CB "CallStepsModel" 168 i12_isSmall 1 := ⟨(gk7 65 rfl rfl), mb12_isSmall⟩
theorem cs_x12_168 : CSw "CallStepsModel" 168 i12_isSmall 1 := ⟨cb_x12_168, (gk7 66 rfl rfl)⟩
theorem fg_x12_159 : FG "CallStepsModel" 159 12 9 0 := ⟨rfl, RX12, TX12, 55, rfl, by decide, (gk6 112 rfl rfl), ing12⟩
theorem k_b_96 : (Int8.ofInt (96)).toInt32 = (96 : Int32) := by decide +kernel
theorem mb12_isDigit : Cond.code (iy i12_isDigit) (ib i12_isDigit) (iL i12_isDigit) (ir i12_isDigit) ∈ gT ∧ Cond.initialized (iy i12_isDigit).cls ∈ gT ∧ ((iy i12_isDigit).cls ≠ "java/lang/invoke/MethodHandle" ∧ (iy i12_isDigit).cls ≠ "java/lang/invoke/VarHandle" ∧ (parseMethodDescriptor (iy i12_isDigit).desc).map (fun d => d.parameters.length) = some 1) := ⟨(gk7 70 rfl rfl), (gk1 13 rfl rfl), nmh_x12.1, nmh_x12.2, pd_12⟩
theorem cb_x12_172 : CB "CallStepsModel" 172 i12_isDigit 1 := ⟨(gk7 68 rfl rfl), mb12_isDigit⟩
theorem cs_x12_172 : CSw "CallStepsModel" 172 i12_isDigit 1 := ⟨cb_x12_172, (gk7 69 rfl rfl)⟩
theorem k_s_9999 : (Int16.ofInt (9999)).toInt32 = (9999 : Int32) := by decide +kernel
theorem fp_x12_159 : FP "CallStepsModel" 159 12 9 0 false .int := ⟨rfl, RX12, TX12, 55, tyX12, ⟨rfl, by decide, (gk6 112 rfl rfl), ing12⟩, tyX12_ok, nmX12, rfl, rfl, rfl⟩
theorem fp_x12_149 : FP "CallStepsModel" 149 12 8 0 false .int := ⟨rfl, RX12, TX12, 55, tyX12, ⟨rfl, by decide, (gk6 111 rfl rfl), ing12⟩, tyX12_ok, nmX12, rfl, rfl, rfl⟩
theorem fp_x12_142 : FP "CallStepsModel" 142 12 7 0 false .int := ⟨rfl, RX12, TX12, 55, tyX12, ⟨rfl, by decide, (gk6 110 rfl rfl), ing12⟩, tyX12_ok, nmX12, rfl, rfl, rfl⟩
theorem fg_x12_175 : FG "CallStepsModel" 175 12 15 0 := ⟨rfl, RX12, TX12, 55, rfl, by decide, (gk6 118 rfl rfl), ing12⟩
theorem fp_x12_175 : FP "CallStepsModel" 175 12 15 0 false .int := ⟨rfl, RX12, TX12, 55, tyX12, ⟨rfl, by decide, (gk6 118 rfl rfl), ing12⟩, tyX12_ok, nmX12, rfl, rfl, rfl⟩
theorem mb12_nextToken : Cond.code (iy i12_nextToken) (ib i12_nextToken) (iL i12_nextToken) (ir i12_nextToken) ∈ gT ∧ Cond.initialized (iy i12_nextToken).cls ∈ gT ∧ ((iy i12_nextToken).cls ≠ "java/lang/invoke/MethodHandle" ∧ (iy i12_nextToken).cls ≠ "java/lang/invoke/VarHandle" ∧ (parseMethodDescriptor (iy i12_nextToken).desc).map (fun d => d.parameters.length) = some 0) := ⟨(gk7 60 rfl rfl), (gk1 13 rfl rfl), nmh_x12.1, nmh_x12.2, pd_3⟩
theorem cb_x12_185 : CB "CallStepsModel" 185 i12_nextToken 0 := ⟨(gk7 57 rfl rfl), mb12_nextToken⟩
theorem mv12_nextToken : Cond.instanceMethod (iy i12_nextToken) ∈ gT ∧ Cond.selects (iy i12_nextToken).cls (iy i12_nextToken) (iy i12_nextToken) ∈ gT ∧ vwCl[12]?.map (fun q => q.1) = some (iy i12_nextToken).cls := ⟨(gk7 59 rfl rfl), (gp4 15 rfl), rfl⟩
theorem cv_x12_185 : CVw "CallStepsModel" 185 i12_nextToken 0 12 := ⟨cb_x12_185, mv12_nextToken⟩
theorem k_s_655 : (Int16.ofInt (655)).toInt32 = (655 : Int32) := by decide +kernel
theorem mb12_isWord : Cond.code (iy i12_isWord) (ib i12_isWord) (iL i12_isWord) (ir i12_isWord) ∈ gT ∧ Cond.initialized (iy i12_isWord).cls ∈ gT ∧ ((iy i12_isWord).cls ≠ "java/lang/invoke/MethodHandle" ∧ (iy i12_isWord).cls ≠ "java/lang/invoke/VarHandle" ∧ (parseMethodDescriptor (iy i12_isWord).desc).map (fun d => d.parameters.length) = some 1) := ⟨(gk7 83 rfl rfl), (gk1 13 rfl rfl), nmh_x12.1, nmh_x12.2, pd_12⟩
theorem cb_x12_189 : CB "CallStepsModel" 189 i12_isWord 1 := ⟨(gk7 80 rfl rfl), mb12_isWord⟩
theorem mv12_isWord : Cond.instanceMethod (iy i12_isWord) ∈ gT ∧ Cond.selects (iy i12_isWord).cls (iy i12_isWord) (iy i12_isWord) ∈ gT ∧ vwCl[12]?.map (fun q => q.1) = some (iy i12_isWord).cls := ⟨(gk7 82 rfl rfl), (gp5 3 rfl), rfl⟩
theorem cv_x12_189 : CVw "CallStepsModel" 189 i12_isWord 1 12 := ⟨cb_x12_189, mv12_isWord⟩
theorem kc_x12_195 : Cond.constant "CallStepsModel" 195 (114292 : Int32) ∈ gT := (gk7 103 rfl rfl)
theorem kc_x12_196 : Cond.constant "CallStepsModel" 196 (441925 : Int32) ∈ gT := (gk7 104 rfl rfl)
theorem kc_x12_188 : Cond.constant "CallStepsModel" 188 (20579973 : Int32) ∈ gT := (gk7 79 rfl rfl)
theorem kc_x12_192 : Cond.constant "CallStepsModel" 192 (632046 : Int32) ∈ gT := (gk7 100 rfl rfl)
theorem kc_x12_193 : Cond.constant "CallStepsModel" 193 (611717 : Int32) ∈ gT := (gk7 101 rfl rfl)
theorem kc_x12_194 : Cond.constant "CallStepsModel" 194 (244780 : Int32) ∈ gT := (gk7 102 rfl rfl)
theorem fg_x12_13 : FG "CallStepsModel" 13 12 2 2 := ⟨rfl, RX12, TX12, 55, rfl, by decide, (gk6 105 rfl rfl), ing12⟩
theorem fg_x12_178 : FG "CallStepsModel" 178 12 16 0 := ⟨rfl, RX12, TX12, 55, rfl, by decide, (gk6 119 rfl rfl), ing12⟩
theorem fp_x12_178 : FP "CallStepsModel" 178 12 16 0 false .int := ⟨rfl, RX12, TX12, 55, tyX12, ⟨rfl, by decide, (gk6 119 rfl rfl), ing12⟩, tyX12_ok, nmX12, rfl, rfl, rfl⟩
theorem mb12_isGood : Cond.code (iy i12_isGood) (ib i12_isGood) (iL i12_isGood) (ir i12_isGood) ∈ gT ∧ Cond.initialized (iy i12_isGood).cls ∈ gT ∧ ((iy i12_isGood).cls ≠ "java/lang/invoke/MethodHandle" ∧ (iy i12_isGood).cls ≠ "java/lang/invoke/VarHandle" ∧ (parseMethodDescriptor (iy i12_isGood).desc).map (fun d => d.parameters.length) = some 0) := ⟨(gk7 74 rfl rfl), (gk1 13 rfl rfl), nmh_x12.1, nmh_x12.2, pd_26⟩
theorem cb_x12_181 : CB "CallStepsModel" 181 i12_isGood 0 := ⟨(gk7 71 rfl rfl), mb12_isGood⟩
theorem mv12_isGood : Cond.instanceMethod (iy i12_isGood) ∈ gT ∧ Cond.selects (iy i12_isGood).cls (iy i12_isGood) (iy i12_isGood) ∈ gT ∧ vwCl[12]?.map (fun q => q.1) = some (iy i12_isGood).cls := ⟨(gk7 73 rfl rfl), (gp5 1 rfl), rfl⟩
theorem cv_x12_181 : CVw "CallStepsModel" 181 i12_isGood 0 12 := ⟨cb_x12_181, mv12_isGood⟩
theorem mb12_fails : Cond.code (iy i12_fails) (ib i12_fails) (iL i12_fails) (ir i12_fails) ∈ gT ∧ Cond.initialized (iy i12_fails).cls ∈ gT ∧ ((iy i12_fails).cls ≠ "java/lang/invoke/MethodHandle" ∧ (iy i12_fails).cls ≠ "java/lang/invoke/VarHandle" ∧ (parseMethodDescriptor (iy i12_fails).desc).map (fun d => d.parameters.length) = some 1) := ⟨(gk7 91 rfl rfl), (gk1 13 rfl rfl), nmh_x12.1, nmh_x12.2, pd_0⟩
theorem cb_x12_206 : CB "CallStepsModel" 206 i12_fails 1 := ⟨(gk7 88 rfl rfl), mb12_fails⟩
theorem mv12_fails : Cond.instanceMethod (iy i12_fails) ∈ gT ∧ Cond.selects (iy i12_fails).cls (iy i12_fails) (iy i12_fails) ∈ gT ∧ vwCl[12]?.map (fun q => q.1) = some (iy i12_fails).cls := ⟨(gk7 90 rfl rfl), (gp5 5 rfl), rfl⟩
theorem cv_x12_206 : CVw "CallStepsModel" 206 i12_fails 1 12 := ⟨cb_x12_206, mv12_fails⟩
theorem mb12_goOn : Cond.code (iy i12_goOn) (ib i12_goOn) (iL i12_goOn) (ir i12_goOn) ∈ gT ∧ Cond.initialized (iy i12_goOn).cls ∈ gT ∧ ((iy i12_goOn).cls ≠ "java/lang/invoke/MethodHandle" ∧ (iy i12_goOn).cls ≠ "java/lang/invoke/VarHandle" ∧ (parseMethodDescriptor (iy i12_goOn).desc).map (fun d => d.parameters.length) = some 0) := ⟨(gk7 112 rfl rfl), (gk1 13 rfl rfl), nmh_x12.1, nmh_x12.2, pd_3⟩
theorem cb_x12_209 : CB "CallStepsModel" 209 i12_goOn 0 := ⟨(gk7 109 rfl rfl), mb12_goOn⟩
theorem mv12_goOn : Cond.instanceMethod (iy i12_goOn) ∈ gT ∧ Cond.selects (iy i12_goOn).cls (iy i12_goOn) (iy i12_goOn) ∈ gT ∧ vwCl[12]?.map (fun q => q.1) = some (iy i12_goOn).cls := ⟨(gk7 111 rfl rfl), (gp5 9 rfl), rfl⟩
theorem cv_x12_209 : CVw "CallStepsModel" 209 i12_goOn 0 12 := ⟨cb_x12_209, mv12_goOn⟩
theorem mb12_isName : Cond.code (iy i12_isName) (ib i12_isName) (iL i12_isName) (ir i12_isName) ∈ gT ∧ Cond.initialized (iy i12_isName).cls ∈ gT ∧ ((iy i12_isName).cls ≠ "java/lang/invoke/MethodHandle" ∧ (iy i12_isName).cls ≠ "java/lang/invoke/VarHandle" ∧ (parseMethodDescriptor (iy i12_isName).desc).map (fun d => d.parameters.length) = some 0) := ⟨(gk7 99 rfl rfl), (gk1 13 rfl rfl), nmh_x12.1, nmh_x12.2, pd_26⟩
theorem cb_x12_200 : CB "CallStepsModel" 200 i12_isName 0 := ⟨(gk7 96 rfl rfl), mb12_isName⟩
theorem mv12_isName : Cond.instanceMethod (iy i12_isName) ∈ gT ∧ Cond.selects (iy i12_isName).cls (iy i12_isName) (iy i12_isName) ∈ gT ∧ vwCl[12]?.map (fun q => q.1) = some (iy i12_isName).cls := ⟨(gk7 98 rfl rfl), (gp5 7 rfl), rfl⟩
theorem cv_x12_200 : CVw "CallStepsModel" 200 i12_isName 0 12 := ⟨cb_x12_200, mv12_isName⟩
theorem mb12_called : Cond.code (iy i12_called) (ib i12_called) (iL i12_called) (ir i12_called) ∈ gT ∧ Cond.initialized (iy i12_called).cls ∈ gT ∧ ((iy i12_called).cls ≠ "java/lang/invoke/MethodHandle" ∧ (iy i12_called).cls ≠ "java/lang/invoke/VarHandle" ∧ (parseMethodDescriptor (iy i12_called).desc).map (fun d => d.parameters.length) = some 2) := ⟨(gk7 108 rfl rfl), (gk1 13 rfl rfl), nmh_x12.1, nmh_x12.2, pd_7⟩
theorem cb_x12_203 : CB "CallStepsModel" 203 i12_called 2 := ⟨(gk7 105 rfl rfl), mb12_called⟩
theorem mv12_called : Cond.instanceMethod (iy i12_called) ∈ gT ∧ Cond.selects (iy i12_called).cls (iy i12_called) (iy i12_called) ∈ gT ∧ vwCl[12]?.map (fun q => q.1) = some (iy i12_called).cls := ⟨(gk7 107 rfl rfl), (gp5 8 rfl), rfl⟩
theorem cv_x12_203 : CVw "CallStepsModel" 203 i12_called 2 12 := ⟨cb_x12_203, mv12_called⟩
theorem fg_x12_25 : FG "CallStepsModel" 25 12 14 0 := ⟨rfl, RX12, TX12, 55, rfl, by decide, (gk6 117 rfl rfl), ing12⟩
theorem fp_x12_25 : FP "CallStepsModel" 25 12 14 0 false .int := ⟨rfl, RX12, TX12, 55, tyX12, ⟨rfl, by decide, (gk6 117 rfl rfl), ing12⟩, tyX12_ok, nmX12, rfl, rfl, rfl⟩
theorem fg_x12_197 : FG "CallStepsModel" 197 12 13 0 := ⟨rfl, RX12, TX12, 55, rfl, by decide, (gk6 116 rfl rfl), ing12⟩
theorem fp_x12_197 : FP "CallStepsModel" 197 12 13 0 false .int := ⟨rfl, RX12, TX12, 55, tyX12, ⟨rfl, by decide, (gk6 116 rfl rfl), ing12⟩, tyX12_ok, nmX12, rfl, rfl, rfl⟩
theorem k_s_528 : (Int16.ofInt (528)).toInt32 = (528 : Int32) := by decide +kernel
theorem fp_x12_240 : FP "CallStepsModel" 240 12 23 0 false .int := ⟨rfl, RX12, TX12, 55, tyX12, ⟨rfl, by decide, (gk6 126 rfl rfl), ing12⟩, tyX12_ok, nmX12, rfl, rfl, rfl⟩
theorem fg_x12_35 : FG "CallStepsModel" 35 12 22 2 := ⟨rfl, RX12, TX12, 55, rfl, by decide, (gk6 125 rfl rfl), ing12⟩
theorem k_b_44 : (Int8.ofInt (44)).toInt32 = (44 : Int32) := by decide +kernel
theorem mb12_oneOf : Cond.code (iy i12_oneOf) (ib i12_oneOf) (iL i12_oneOf) (ir i12_oneOf) ∈ gT ∧ Cond.initialized (iy i12_oneOf).cls ∈ gT ∧ ((iy i12_oneOf).cls ≠ "java/lang/invoke/MethodHandle" ∧ (iy i12_oneOf).cls ≠ "java/lang/invoke/VarHandle" ∧ (parseMethodDescriptor (iy i12_oneOf).desc).map (fun d => d.parameters.length) = some 2) := ⟨(gk7 120 rfl rfl), (gk1 13 rfl rfl), nmh_x12.1, nmh_x12.2, pd_7⟩
theorem cb_x12_212 : CB "CallStepsModel" 212 i12_oneOf 2 := ⟨(gk7 117 rfl rfl), mb12_oneOf⟩
theorem mv12_oneOf : Cond.instanceMethod (iy i12_oneOf) ∈ gT ∧ Cond.selects (iy i12_oneOf).cls (iy i12_oneOf) (iy i12_oneOf) ∈ gT ∧ vwCl[12]?.map (fun q => q.1) = some (iy i12_oneOf).cls := ⟨(gk7 119 rfl rfl), (gp5 11 rfl), rfl⟩
theorem cv_x12_212 : CVw "CallStepsModel" 212 i12_oneOf 2 12 := ⟨cb_x12_212, mv12_oneOf⟩
theorem fg_x12_32 : FG "CallStepsModel" 32 12 18 2 := ⟨rfl, RX12, TX12, 55, rfl, by decide, (gk6 121 rfl rfl), ing12⟩
theorem mb12_ends : Cond.code (iy i12_ends) (ib i12_ends) (iL i12_ends) (ir i12_ends) ∈ gT ∧ Cond.initialized (iy i12_ends).cls ∈ gT ∧ ((iy i12_ends).cls ≠ "java/lang/invoke/MethodHandle" ∧ (iy i12_ends).cls ≠ "java/lang/invoke/VarHandle" ∧ (parseMethodDescriptor (iy i12_ends).desc).map (fun d => d.parameters.length) = some 0) := ⟨(gk7 128 rfl rfl), (gk1 13 rfl rfl), nmh_x12.1, nmh_x12.2, pd_26⟩
theorem cb_x12_233 : CB "CallStepsModel" 233 i12_ends 0 := ⟨(gk7 125 rfl rfl), mb12_ends⟩
theorem mv12_ends : Cond.instanceMethod (iy i12_ends) ∈ gT ∧ Cond.selects (iy i12_ends).cls (iy i12_ends) (iy i12_ends) ∈ gT ∧ vwCl[12]?.map (fun q => q.1) = some (iy i12_ends).cls := ⟨(gk7 127 rfl rfl), (gp5 13 rfl), rfl⟩
theorem cv_x12_233 : CVw "CallStepsModel" 233 i12_ends 0 12 := ⟨cb_x12_233, mv12_ends⟩
theorem mb12_keep : Cond.code (iy i12_keep) (ib i12_keep) (iL i12_keep) (ir i12_keep) ∈ gT ∧ Cond.initialized (iy i12_keep).cls ∈ gT ∧ ((iy i12_keep).cls ≠ "java/lang/invoke/MethodHandle" ∧ (iy i12_keep).cls ≠ "java/lang/invoke/VarHandle" ∧ (parseMethodDescriptor (iy i12_keep).desc).map (fun d => d.parameters.length) = some 0) := ⟨(gk7 168 rfl rfl), (gk1 13 rfl rfl), nmh_x12.1, nmh_x12.2, pd_3⟩
theorem cb_x12_261 : CB "CallStepsModel" 261 i12_keep 0 := ⟨(gk7 165 rfl rfl), mb12_keep⟩
theorem mv12_keep : Cond.instanceMethod (iy i12_keep) ∈ gT ∧ Cond.selects (iy i12_keep).cls (iy i12_keep) (iy i12_keep) ∈ gT ∧ vwCl[12]?.map (fun q => q.1) = some (iy i12_keep).cls := ⟨(gk7 167 rfl rfl), (gp6 1 rfl), rfl⟩
theorem cv_x12_261 : CVw "CallStepsModel" 261 i12_keep 0 12 := ⟨cb_x12_261, mv12_keep⟩
theorem fp_x12_236 : FP "CallStepsModel" 236 12 19 0 false .boolean := ⟨rfl, RX12, TX12, 55, tyX12, ⟨rfl, by decide, (gk6 122 rfl rfl), ing12⟩, tyX12_ok, nmX12, rfl, rfl, rfl⟩
theorem fp_x12_252 : FP "CallStepsModel" 252 12 20 0 false .int := ⟨rfl, RX12, TX12, 55, tyX12, ⟨rfl, by decide, (gk6 123 rfl rfl), ing12⟩, tyX12_ok, nmX12, rfl, rfl, rfl⟩
theorem fp_x12_255 : FP "CallStepsModel" 255 12 21 0 false .int := ⟨rfl, RX12, TX12, 55, tyX12, ⟨rfl, by decide, (gk6 124 rfl rfl), ing12⟩, tyX12_ok, nmX12, rfl, rfl, rfl⟩
theorem mb12_begins : Cond.code (iy i12_begins) (ib i12_begins) (iL i12_begins) (ir i12_begins) ∈ gT ∧ Cond.initialized (iy i12_begins).cls ∈ gT ∧ ((iy i12_begins).cls ≠ "java/lang/invoke/MethodHandle" ∧ (iy i12_begins).cls ≠ "java/lang/invoke/VarHandle" ∧ (parseMethodDescriptor (iy i12_begins).desc).map (fun d => d.parameters.length) = some 0) := ⟨(gk7 56 rfl rfl), (gk1 13 rfl rfl), nmh_x12.1, nmh_x12.2, pd_3⟩
theorem cb_x12_227 : CB "CallStepsModel" 227 i12_begins 0 := ⟨(gk7 53 rfl rfl), mb12_begins⟩
theorem mv12_begins : Cond.instanceMethod (iy i12_begins) ∈ gT ∧ Cond.selects (iy i12_begins).cls (iy i12_begins) (iy i12_begins) ∈ gT ∧ vwCl[12]?.map (fun q => q.1) = some (iy i12_begins).cls := ⟨(gk7 55 rfl rfl), (gp4 14 rfl), rfl⟩
theorem cv_x12_227 : CVw "CallStepsModel" 227 i12_begins 0 12 := ⟨cb_x12_227, mv12_begins⟩
theorem fg_x12_50 : FG "CallStepsModel" 50 12 28 2 := ⟨rfl, RX12, TX12, 55, rfl, by decide, (gk6 131 rfl rfl), ing12⟩
theorem mb12_aboveBy : Cond.code (iy i12_aboveBy) (ib i12_aboveBy) (iL i12_aboveBy) (ir i12_aboveBy) ∈ gT ∧ Cond.initialized (iy i12_aboveBy).cls ∈ gT ∧ ((iy i12_aboveBy).cls ≠ "java/lang/invoke/MethodHandle" ∧ (iy i12_aboveBy).cls ≠ "java/lang/invoke/VarHandle" ∧ (parseMethodDescriptor (iy i12_aboveBy).desc).map (fun d => d.parameters.length) = some 4) := ⟨(gk8 36 rfl rfl), (gk1 13 rfl rfl), nmh_x12.1, nmh_x12.2, pd_49⟩
theorem cb_x12_319 : CB "CallStepsModel" 319 i12_aboveBy 4 := ⟨(gk8 33 rfl rfl), mb12_aboveBy⟩
theorem mv12_aboveBy : Cond.instanceMethod (iy i12_aboveBy) ∈ gT ∧ Cond.selects (iy i12_aboveBy).cls (iy i12_aboveBy) (iy i12_aboveBy) ∈ gT ∧ vwCl[12]?.map (fun q => q.1) = some (iy i12_aboveBy).cls := ⟨(gk8 35 rfl rfl), (gp7 3 rfl), rfl⟩
theorem cv_x12_319 : CVw "CallStepsModel" 319 i12_aboveBy 4 12 := ⟨cb_x12_319, mv12_aboveBy⟩
theorem mb12_onBy : Cond.code (iy i12_onBy) (ib i12_onBy) (iL i12_onBy) (ir i12_onBy) ∈ gT ∧ Cond.initialized (iy i12_onBy).cls ∈ gT ∧ ((iy i12_onBy).cls ≠ "java/lang/invoke/MethodHandle" ∧ (iy i12_onBy).cls ≠ "java/lang/invoke/VarHandle" ∧ (parseMethodDescriptor (iy i12_onBy).desc).map (fun d => d.parameters.length) = some 4) := ⟨(gk8 9 rfl rfl), (gk1 13 rfl rfl), nmh_x12.1, nmh_x12.2, pd_49⟩
theorem cb_x12_303 : CB "CallStepsModel" 303 i12_onBy 4 := ⟨(gk8 6 rfl rfl), mb12_onBy⟩
theorem mv12_onBy : Cond.instanceMethod (iy i12_onBy) ∈ gT ∧ Cond.selects (iy i12_onBy).cls (iy i12_onBy) (iy i12_onBy) ∈ gT ∧ vwCl[12]?.map (fun q => q.1) = some (iy i12_onBy).cls := ⟨(gk8 8 rfl rfl), (gp6 14 rfl), rfl⟩
theorem cv_x12_303 : CVw "CallStepsModel" 303 i12_onBy 4 12 := ⟨cb_x12_303, mv12_onBy⟩
theorem mb12_allThatCan : Cond.code (iy i12_allThatCan) (ib i12_allThatCan) (iL i12_allThatCan) (ir i12_allThatCan) ∈ gT ∧ Cond.initialized (iy i12_allThatCan).cls ∈ gT ∧ ((iy i12_allThatCan).cls ≠ "java/lang/invoke/MethodHandle" ∧ (iy i12_allThatCan).cls ≠ "java/lang/invoke/VarHandle" ∧ (parseMethodDescriptor (iy i12_allThatCan).desc).map (fun d => d.parameters.length) = some 0) := ⟨(gk7 184 rfl rfl), (gk1 13 rfl rfl), nmh_x12.1, nmh_x12.2, pd_24⟩
theorem cb_x12_271 : CB "CallStepsModel" 271 i12_allThatCan 0 := ⟨(gk7 181 rfl rfl), mb12_allThatCan⟩
theorem mv12_allThatCan : Cond.instanceMethod (iy i12_allThatCan) ∈ gT ∧ Cond.selects (iy i12_allThatCan).cls (iy i12_allThatCan) (iy i12_allThatCan) ∈ gT ∧ vwCl[12]?.map (fun q => q.1) = some (iy i12_allThatCan).cls := ⟨(gk7 183 rfl rfl), (gp6 3 rfl), rfl⟩
theorem cv_x12_271 : CVw "CallStepsModel" 271 i12_allThatCan 0 12 := ⟨cb_x12_271, mv12_allThatCan⟩
theorem mb12_states : Cond.code (iy i12_states) (ib i12_states) (iL i12_states) (ir i12_states) ∈ gT ∧ Cond.initialized (iy i12_states).cls ∈ gT ∧ ((iy i12_states).cls ≠ "java/lang/invoke/MethodHandle" ∧ (iy i12_states).cls ≠ "java/lang/invoke/VarHandle" ∧ (parseMethodDescriptor (iy i12_states).desc).map (fun d => d.parameters.length) = some 0) := ⟨(gk8 66 rfl rfl), (gk1 13 rfl rfl), nmh_x12.1, nmh_x12.2, pd_24⟩
theorem cb_x12_120 : CB "CallStepsModel" 120 i12_states 0 := ⟨(gk8 63 rfl rfl), mb12_states⟩
theorem mv12_states : Cond.instanceMethod (iy i12_states) ∈ gT ∧ Cond.selects (iy i12_states).cls (iy i12_states) (iy i12_states) ∈ gT ∧ vwCl[12]?.map (fun q => q.1) = some (iy i12_states).cls := ⟨(gk8 65 rfl rfl), (gp7 8 rfl), rfl⟩
theorem cv_x12_120 : CVw "CallStepsModel" 120 i12_states 0 12 := ⟨cb_x12_120, mv12_states⟩
theorem mb12_in : Cond.code (iy i12_in) (ib i12_in) (iL i12_in) (ir i12_in) ∈ gT ∧ Cond.initialized (iy i12_in).cls ∈ gT ∧ ((iy i12_in).cls ≠ "java/lang/invoke/MethodHandle" ∧ (iy i12_in).cls ≠ "java/lang/invoke/VarHandle" ∧ (parseMethodDescriptor (iy i12_in).desc).map (fun d => d.parameters.length) = some 3) := ⟨(gk7 48 rfl rfl), (gk1 13 rfl rfl), nmh_x12.1, nmh_x12.2, pd_19⟩
theorem cb_x12_124 : CB "CallStepsModel" 124 i12_in 3 := ⟨(gk7 46 rfl rfl), mb12_in⟩
theorem cs_x12_124 : CSw "CallStepsModel" 124 i12_in 3 := ⟨cb_x12_124, (gk7 47 rfl rfl)⟩
theorem fp_x12_278 : FP "CallStepsModel" 278 12 30 0 false .int := ⟨rfl, RX12, TX12, 55, tyX12, ⟨rfl, by decide, (gk6 133 rfl rfl), ing12⟩, tyX12_ok, nmX12, rfl, rfl, rfl⟩
theorem fg_x12_38 : FG "CallStepsModel" 38 12 24 2 := ⟨rfl, RX12, TX12, 55, rfl, by decide, (gk6 127 rfl rfl), ing12⟩
theorem mb12_nodeOf : Cond.code (iy i12_nodeOf) (ib i12_nodeOf) (iL i12_nodeOf) (ir i12_nodeOf) ∈ gT ∧ Cond.initialized (iy i12_nodeOf).cls ∈ gT ∧ ((iy i12_nodeOf).cls ≠ "java/lang/invoke/MethodHandle" ∧ (iy i12_nodeOf).cls ≠ "java/lang/invoke/VarHandle" ∧ (parseMethodDescriptor (iy i12_nodeOf).desc).map (fun d => d.parameters.length) = some 2) := ⟨(gk7 233 rfl rfl), (gk1 13 rfl rfl), nmh_x12.1, nmh_x12.2, pd_7⟩
theorem cb_x12_285 : CB "CallStepsModel" 285 i12_nodeOf 2 := ⟨(gk7 230 rfl rfl), mb12_nodeOf⟩
theorem mv12_nodeOf : Cond.instanceMethod (iy i12_nodeOf) ∈ gT ∧ Cond.selects (iy i12_nodeOf).cls (iy i12_nodeOf) (iy i12_nodeOf) ∈ gT ∧ vwCl[12]?.map (fun q => q.1) = some (iy i12_nodeOf).cls := ⟨(gk7 232 rfl rfl), (gp6 10 rfl), rfl⟩
theorem cv_x12_285 : CVw "CallStepsModel" 285 i12_nodeOf 2 12 := ⟨cb_x12_285, mv12_nodeOf⟩
theorem pd_50 : (parseMethodDescriptor "([JII)J").map (fun d => d.parameters.length) = some 3 := by decide +kernel
theorem mb12_byRule : Cond.code (iy i12_byRule) (ib i12_byRule) (iL i12_byRule) (ir i12_byRule) ∈ gT ∧ Cond.initialized (iy i12_byRule).cls ∈ gT ∧ ((iy i12_byRule).cls ≠ "java/lang/invoke/MethodHandle" ∧ (iy i12_byRule).cls ≠ "java/lang/invoke/VarHandle" ∧ (parseMethodDescriptor (iy i12_byRule).desc).map (fun d => d.parameters.length) = some 3) := ⟨(gk8 1 rfl rfl), (gk1 13 rfl rfl), nmh_x12.1, nmh_x12.2, pd_50⟩
theorem cb_x12_288 : CB "CallStepsModel" 288 i12_byRule 3 := ⟨(gk7 238 rfl rfl), mb12_byRule⟩
theorem mv12_byRule : Cond.instanceMethod (iy i12_byRule) ∈ gT ∧ Cond.selects (iy i12_byRule).cls (iy i12_byRule) (iy i12_byRule) ∈ gT ∧ vwCl[12]?.map (fun q => q.1) = some (iy i12_byRule).cls := ⟨(gk8 0 rfl rfl), (gp6 12 rfl), rfl⟩
theorem cv_x12_288 : CVw "CallStepsModel" 288 i12_byRule 3 12 := ⟨cb_x12_288, mv12_byRule⟩
theorem k_s_630 : (Int16.ofInt (630)).toInt32 = (630 : Int32) := by decide +kernel
theorem mb12_isEnd : Cond.code (iy i12_isEnd) (ib i12_isEnd) (iL i12_isEnd) (ir i12_isEnd) ∈ gT ∧ Cond.initialized (iy i12_isEnd).cls ∈ gT ∧ ((iy i12_isEnd).cls ≠ "java/lang/invoke/MethodHandle" ∧ (iy i12_isEnd).cls ≠ "java/lang/invoke/VarHandle" ∧ (parseMethodDescriptor (iy i12_isEnd).desc).map (fun d => d.parameters.length) = some 1) := ⟨(gk8 32 rfl rfl), (gk1 13 rfl rfl), nmh_x12.1, nmh_x12.2, pd_12⟩
theorem cb_x12_316 : CB "CallStepsModel" 316 i12_isEnd 1 := ⟨(gk8 29 rfl rfl), mb12_isEnd⟩
theorem mv12_isEnd : Cond.instanceMethod (iy i12_isEnd) ∈ gT ∧ Cond.selects (iy i12_isEnd).cls (iy i12_isEnd) (iy i12_isEnd) ∈ gT ∧ vwCl[12]?.map (fun q => q.1) = some (iy i12_isEnd).cls := ⟨(gk8 31 rfl rfl), (gp7 2 rfl), rfl⟩
theorem cv_x12_316 : CVw "CallStepsModel" 316 i12_isEnd 1 12 := ⟨cb_x12_316, mv12_isEnd⟩
theorem pd_51 : (parseMethodDescriptor "([J[III)V").map (fun d => d.parameters.length) = some 4 := by decide +kernel
theorem mb12_layAbove : Cond.code (iy i12_layAbove) (ib i12_layAbove) (iL i12_layAbove) (ir i12_layAbove) ∈ gT ∧ Cond.initialized (iy i12_layAbove).cls ∈ gT ∧ ((iy i12_layAbove).cls ≠ "java/lang/invoke/MethodHandle" ∧ (iy i12_layAbove).cls ≠ "java/lang/invoke/VarHandle" ∧ (parseMethodDescriptor (iy i12_layAbove).desc).map (fun d => d.parameters.length) = some 4) := ⟨(gk8 28 rfl rfl), (gk1 13 rfl rfl), nmh_x12.1, nmh_x12.2, pd_51⟩
theorem cb_x12_322 : CB "CallStepsModel" 322 i12_layAbove 4 := ⟨(gk8 25 rfl rfl), mb12_layAbove⟩
theorem mv12_layAbove : Cond.instanceMethod (iy i12_layAbove) ∈ gT ∧ Cond.selects (iy i12_layAbove).cls (iy i12_layAbove) (iy i12_layAbove) ∈ gT ∧ vwCl[12]?.map (fun q => q.1) = some (iy i12_layAbove).cls := ⟨(gk8 27 rfl rfl), (gp7 1 rfl), rfl⟩
theorem cv_x12_322 : CVw "CallStepsModel" 322 i12_layAbove 4 12 := ⟨cb_x12_322, mv12_layAbove⟩
theorem mb12_targetIs : Cond.code (iy i12_targetIs) (ib i12_targetIs) (iL i12_targetIs) (ir i12_targetIs) ∈ gT ∧ Cond.initialized (iy i12_targetIs).cls ∈ gT ∧ ((iy i12_targetIs).cls ≠ "java/lang/invoke/MethodHandle" ∧ (iy i12_targetIs).cls ≠ "java/lang/invoke/VarHandle" ∧ (parseMethodDescriptor (iy i12_targetIs).desc).map (fun d => d.parameters.length) = some 2) := ⟨(gk8 87 rfl rfl), (gk1 13 rfl rfl), nmh_x12.1, nmh_x12.2, pd_2⟩
theorem cb_x12_361 : CB "CallStepsModel" 361 i12_targetIs 2 := ⟨(gk8 84 rfl rfl), mb12_targetIs⟩
theorem mv12_targetIs : Cond.instanceMethod (iy i12_targetIs) ∈ gT ∧ Cond.selects (iy i12_targetIs).cls (iy i12_targetIs) (iy i12_targetIs) ∈ gT ∧ vwCl[12]?.map (fun q => q.1) = some (iy i12_targetIs).cls := ⟨(gk8 86 rfl rfl), (gp7 11 rfl), rfl⟩
theorem cv_x12_361 : CVw "CallStepsModel" 361 i12_targetIs 2 12 := ⟨cb_x12_361, mv12_targetIs⟩
theorem fg_x12_54 : FG "CallStepsModel" 54 12 29 2 := ⟨rfl, RX12, TX12, 55, rfl, by decide, (gk6 132 rfl rfl), ing12⟩
theorem pd_52 : (parseMethodDescriptor "([J)V").map (fun d => d.parameters.length) = some 1 := by decide +kernel
theorem mb12_lay : Cond.code (iy i12_lay) (ib i12_lay) (iL i12_lay) (ir i12_lay) ∈ gT ∧ Cond.initialized (iy i12_lay).cls ∈ gT ∧ ((iy i12_lay).cls ≠ "java/lang/invoke/MethodHandle" ∧ (iy i12_lay).cls ≠ "java/lang/invoke/VarHandle" ∧ (parseMethodDescriptor (iy i12_lay).desc).map (fun d => d.parameters.length) = some 1) := ⟨(gk7 225 rfl rfl), (gk1 13 rfl rfl), nmh_x12.1, nmh_x12.2, pd_52⟩
theorem cb_x12_312 : CB "CallStepsModel" 312 i12_lay 1 := ⟨(gk7 222 rfl rfl), mb12_lay⟩
theorem mv12_lay : Cond.instanceMethod (iy i12_lay) ∈ gT ∧ Cond.selects (iy i12_lay).cls (iy i12_lay) (iy i12_lay) ∈ gT ∧ vwCl[12]?.map (fun q => q.1) = some (iy i12_lay).cls := ⟨(gk7 224 rfl rfl), (gp6 8 rfl), rfl⟩
theorem cv_x12_312 : CVw "CallStepsModel" 312 i12_lay 1 12 := ⟨cb_x12_312, mv12_lay⟩
theorem pd_53 : (parseMethodDescriptor "([J)J").map (fun d => d.parameters.length) = some 1 := by decide +kernel
theorem mb12_costNow : Cond.code (iy i12_costNow) (ib i12_costNow) (iL i12_costNow) (ir i12_costNow) ∈ gT ∧ Cond.initialized (iy i12_costNow).cls ∈ gT ∧ ((iy i12_costNow).cls ≠ "java/lang/invoke/MethodHandle" ∧ (iy i12_costNow).cls ≠ "java/lang/invoke/VarHandle" ∧ (parseMethodDescriptor (iy i12_costNow).desc).map (fun d => d.parameters.length) = some 1) := ⟨(gk8 24 rfl rfl), (gk1 13 rfl rfl), nmh_x12.1, nmh_x12.2, pd_53⟩
theorem cb_x12_329 : CB "CallStepsModel" 329 i12_costNow 1 := ⟨(gk8 21 rfl rfl), mb12_costNow⟩
theorem mv12_costNow : Cond.instanceMethod (iy i12_costNow) ∈ gT ∧ Cond.selects (iy i12_costNow).cls (iy i12_costNow) (iy i12_costNow) ∈ gT ∧ vwCl[12]?.map (fun q => q.1) = some (iy i12_costNow).cls := ⟨(gk8 23 rfl rfl), (gp7 0 rfl), rfl⟩
theorem cv_x12_329 : CVw "CallStepsModel" 329 i12_costNow 1 12 := ⟨cb_x12_329, mv12_costNow⟩
theorem mb12_comesTo : Cond.code (iy i12_comesTo) (ib i12_comesTo) (iL i12_comesTo) (ir i12_comesTo) ∈ gT ∧ Cond.initialized (iy i12_comesTo).cls ∈ gT ∧ ((iy i12_comesTo).cls ≠ "java/lang/invoke/MethodHandle" ∧ (iy i12_comesTo).cls ≠ "java/lang/invoke/VarHandle" ∧ (parseMethodDescriptor (iy i12_comesTo).desc).map (fun d => d.parameters.length) = some 2) := ⟨(gk8 83 rfl rfl), (gk1 13 rfl rfl), nmh_x12.1, nmh_x12.2, pd_9⟩
theorem cb_x12_365 : CB "CallStepsModel" 365 i12_comesTo 2 := ⟨(gk8 80 rfl rfl), mb12_comesTo⟩
theorem mv12_comesTo : Cond.instanceMethod (iy i12_comesTo) ∈ gT ∧ Cond.selects (iy i12_comesTo).cls (iy i12_comesTo) (iy i12_comesTo) ∈ gT ∧ vwCl[12]?.map (fun q => q.1) = some (iy i12_comesTo).cls := ⟨(gk8 82 rfl rfl), (gp7 10 rfl), rfl⟩
theorem cv_x12_365 : CVw "CallStepsModel" 365 i12_comesTo 2 12 := ⟨cb_x12_365, mv12_comesTo⟩
theorem mb12_isState : Cond.code (iy i12_isState) (ib i12_isState) (iL i12_isState) (ir i12_isState) ∈ gT ∧ Cond.initialized (iy i12_isState).cls ∈ gT ∧ ((iy i12_isState).cls ≠ "java/lang/invoke/MethodHandle" ∧ (iy i12_isState).cls ≠ "java/lang/invoke/VarHandle" ∧ (parseMethodDescriptor (iy i12_isState).desc).map (fun d => d.parameters.length) = some 1) := ⟨(gk8 62 rfl rfl), (gk1 13 rfl rfl), nmh_x12.1, nmh_x12.2, pd_12⟩
theorem cb_x12_350 : CB "CallStepsModel" 350 i12_isState 1 := ⟨(gk8 59 rfl rfl), mb12_isState⟩
theorem mv12_isState : Cond.instanceMethod (iy i12_isState) ∈ gT ∧ Cond.selects (iy i12_isState).cls (iy i12_isState) (iy i12_isState) ∈ gT ∧ vwCl[12]?.map (fun q => q.1) = some (iy i12_isState).cls := ⟨(gk8 61 rfl rfl), (gp7 7 rfl), rfl⟩
theorem cv_x12_350 : CVw "CallStepsModel" 350 i12_isState 1 12 := ⟨cb_x12_350, mv12_isState⟩
theorem mb12_isSign : Cond.code (iy i12_isSign) (ib i12_isSign) (iL i12_isSign) (ir i12_isSign) ∈ gT ∧ Cond.initialized (iy i12_isSign).cls ∈ gT ∧ ((iy i12_isSign).cls ≠ "java/lang/invoke/MethodHandle" ∧ (iy i12_isSign).cls ≠ "java/lang/invoke/VarHandle" ∧ (parseMethodDescriptor (iy i12_isSign).desc).map (fun d => d.parameters.length) = some 1) := ⟨(gk8 70 rfl rfl), (gk1 13 rfl rfl), nmh_x12.1, nmh_x12.2, pd_12⟩
theorem cb_x12_353 : CB "CallStepsModel" 353 i12_isSign 1 := ⟨(gk8 67 rfl rfl), mb12_isSign⟩
theorem mv12_isSign : Cond.instanceMethod (iy i12_isSign) ∈ gT ∧ Cond.selects (iy i12_isSign).cls (iy i12_isSign) (iy i12_isSign) ∈ gT ∧ vwCl[12]?.map (fun q => q.1) = some (iy i12_isSign).cls := ⟨(gk8 69 rfl rfl), (gp7 9 rfl), rfl⟩
theorem cv_x12_353 : CVw "CallStepsModel" 353 i12_isSign 1 12 := ⟨cb_x12_353, mv12_isSign⟩
theorem fg_x12_19 : FG "CallStepsModel" 19 12 4 2 := ⟨rfl, RX12, TX12, 55, rfl, by decide, (gk6 107 rfl rfl), ing12⟩
theorem mb12_targetsAreGoals : Cond.code (iy i12_targetsAreGoals) (ib i12_targetsAreGoals) (iL i12_targetsAreGoals) (ir i12_targetsAreGoals) ∈ gT ∧ Cond.initialized (iy i12_targetsAreGoals).cls ∈ gT ∧ ((iy i12_targetsAreGoals).cls ≠ "java/lang/invoke/MethodHandle" ∧ (iy i12_targetsAreGoals).cls ≠ "java/lang/invoke/VarHandle" ∧ (parseMethodDescriptor (iy i12_targetsAreGoals).desc).map (fun d => d.parameters.length) = some 0) := ⟨(gk7 221 rfl rfl), (gk1 13 rfl rfl), nmh_x12.1, nmh_x12.2, pd_3⟩
theorem cb_x12_309 : CB "CallStepsModel" 309 i12_targetsAreGoals 0 := ⟨(gk7 218 rfl rfl), mb12_targetsAreGoals⟩
theorem mv12_targetsAreGoals : Cond.instanceMethod (iy i12_targetsAreGoals) ∈ gT ∧ Cond.selects (iy i12_targetsAreGoals).cls (iy i12_targetsAreGoals) (iy i12_targetsAreGoals) ∈ gT ∧ vwCl[12]?.map (fun q => q.1) = some (iy i12_targetsAreGoals).cls := ⟨(gk7 220 rfl rfl), (gp6 7 rfl), rfl⟩
theorem cv_x12_309 : CVw "CallStepsModel" 309 i12_targetsAreGoals 0 12 := ⟨cb_x12_309, mv12_targetsAreGoals⟩
theorem fg_x12_243 : FG "CallStepsModel" 243 12 31 0 := ⟨rfl, RX12, TX12, 55, rfl, by decide, (gk6 134 rfl rfl), ing12⟩
theorem fp_x12_243 : FP "CallStepsModel" 243 12 31 0 false .boolean := ⟨rfl, RX12, TX12, 55, tyX12, ⟨rfl, by decide, (gk6 134 rfl rfl), ing12⟩, tyX12_ok, nmX12, rfl, rfl, rfl⟩
theorem mb12_layTold : Cond.code (iy i12_layTold) (ib i12_layTold) (iL i12_layTold) (ir i12_layTold) ∈ gT ∧ Cond.initialized (iy i12_layTold).cls ∈ gT ∧ ((iy i12_layTold).cls ≠ "java/lang/invoke/MethodHandle" ∧ (iy i12_layTold).cls ≠ "java/lang/invoke/VarHandle" ∧ (parseMethodDescriptor (iy i12_layTold).desc).map (fun d => d.parameters.length) = some 0) := ⟨(gk7 217 rfl rfl), (gk1 13 rfl rfl), nmh_x12.1, nmh_x12.2, pd_3⟩
theorem cb_x12_326 : CB "CallStepsModel" 326 i12_layTold 0 := ⟨(gk7 214 rfl rfl), mb12_layTold⟩
theorem mv12_layTold : Cond.instanceMethod (iy i12_layTold) ∈ gT ∧ Cond.selects (iy i12_layTold).cls (iy i12_layTold) (iy i12_layTold) ∈ gT ∧ vwCl[12]?.map (fun q => q.1) = some (iy i12_layTold).cls := ⟨(gk7 216 rfl rfl), (gp6 6 rfl), rfl⟩
theorem cv_x12_326 : CVw "CallStepsModel" 326 i12_layTold 0 12 := ⟨cb_x12_326, mv12_layTold⟩
theorem fg_x12_72 : FG "CallStepsModel" 72 12 38 2 := ⟨rfl, RX12, TX12, 55, rfl, by decide, (gk6 141 rfl rfl), ing12⟩
theorem mb12_head : Cond.code (iy i12_head) (ib i12_head) (iL i12_head) (ir i12_head) ∈ gT ∧ Cond.initialized (iy i12_head).cls ∈ gT ∧ ((iy i12_head).cls ≠ "java/lang/invoke/MethodHandle" ∧ (iy i12_head).cls ≠ "java/lang/invoke/VarHandle" ∧ (parseMethodDescriptor (iy i12_head).desc).map (fun d => d.parameters.length) = some 2) := ⟨(gk8 103 rfl rfl), (gk1 13 rfl rfl), nmh_x12.1, nmh_x12.2, pd_7⟩
theorem cb_x12_368 : CB "CallStepsModel" 368 i12_head 2 := ⟨(gk8 100 rfl rfl), mb12_head⟩
theorem mv12_head : Cond.instanceMethod (iy i12_head) ∈ gT ∧ Cond.selects (iy i12_head).cls (iy i12_head) (iy i12_head) ∈ gT ∧ vwCl[12]?.map (fun q => q.1) = some (iy i12_head).cls := ⟨(gk8 102 rfl rfl), (gp7 13 rfl), rfl⟩
theorem cv_x12_368 : CVw "CallStepsModel" 368 i12_head 2 12 := ⟨cb_x12_368, mv12_head⟩
theorem mb12_canPop : Cond.code (iy i12_canPop) (ib i12_canPop) (iL i12_canPop) (ir i12_canPop) ∈ gT ∧ Cond.initialized (iy i12_canPop).cls ∈ gT ∧ ((iy i12_canPop).cls ≠ "java/lang/invoke/MethodHandle" ∧ (iy i12_canPop).cls ≠ "java/lang/invoke/VarHandle" ∧ (parseMethodDescriptor (iy i12_canPop).desc).map (fun d => d.parameters.length) = some 3) := ⟨(gk8 111 rfl rfl), (gk1 13 rfl rfl), nmh_x12.1, nmh_x12.2, pd_19⟩
theorem cb_x12_374 : CB "CallStepsModel" 374 i12_canPop 3 := ⟨(gk8 108 rfl rfl), mb12_canPop⟩
theorem mv12_canPop : Cond.instanceMethod (iy i12_canPop) ∈ gT ∧ Cond.selects (iy i12_canPop).cls (iy i12_canPop) (iy i12_canPop) ∈ gT ∧ vwCl[12]?.map (fun q => q.1) = some (iy i12_canPop).cls := ⟨(gk8 110 rfl rfl), (gp7 15 rfl), rfl⟩
theorem cv_x12_374 : CVw "CallStepsModel" 374 i12_canPop 3 12 := ⟨cb_x12_374, mv12_canPop⟩
theorem k_s_900 : (Int16.ofInt (900)).toInt32 = (900 : Int32) := by decide +kernel
theorem fg_x12_76 : FG "CallStepsModel" 76 12 39 2 := ⟨rfl, RX12, TX12, 55, rfl, by decide, (gk6 142 rfl rfl), ing12⟩
theorem mb12_goesOnAt : Cond.code (iy i12_goesOnAt) (ib i12_goesOnAt) (iL i12_goesOnAt) (ir i12_goesOnAt) ∈ gT ∧ Cond.initialized (iy i12_goesOnAt).cls ∈ gT ∧ ((iy i12_goesOnAt).cls ≠ "java/lang/invoke/MethodHandle" ∧ (iy i12_goesOnAt).cls ≠ "java/lang/invoke/VarHandle" ∧ (parseMethodDescriptor (iy i12_goesOnAt).desc).map (fun d => d.parameters.length) = some 2) := ⟨(gk8 134 rfl rfl), (gk1 13 rfl rfl), nmh_x12.1, nmh_x12.2, pd_13⟩
theorem cb_x12_389 : CB "CallStepsModel" 389 i12_goesOnAt 2 := ⟨(gk8 131 rfl rfl), mb12_goesOnAt⟩
theorem mv12_goesOnAt : Cond.instanceMethod (iy i12_goesOnAt) ∈ gT ∧ Cond.selects (iy i12_goesOnAt).cls (iy i12_goesOnAt) (iy i12_goesOnAt) ∈ gT ∧ vwCl[12]?.map (fun q => q.1) = some (iy i12_goesOnAt).cls := ⟨(gk8 133 rfl rfl), (gp8 2 rfl), rfl⟩
theorem cv_x12_389 : CVw "CallStepsModel" 389 i12_goesOnAt 2 12 := ⟨cb_x12_389, mv12_goesOnAt⟩
theorem mb12_layBehind : Cond.code (iy i12_layBehind) (ib i12_layBehind) (iL i12_layBehind) (ir i12_layBehind) ∈ gT ∧ Cond.initialized (iy i12_layBehind).cls ∈ gT ∧ ((iy i12_layBehind).cls ≠ "java/lang/invoke/MethodHandle" ∧ (iy i12_layBehind).cls ≠ "java/lang/invoke/VarHandle" ∧ (parseMethodDescriptor (iy i12_layBehind).desc).map (fun d => d.parameters.length) = some 0) := ⟨(gk8 130 rfl rfl), (gk1 13 rfl rfl), nmh_x12.1, nmh_x12.2, pd_3⟩
theorem cb_x12_386 : CB "CallStepsModel" 386 i12_layBehind 0 := ⟨(gk8 127 rfl rfl), mb12_layBehind⟩
theorem mv12_layBehind : Cond.instanceMethod (iy i12_layBehind) ∈ gT ∧ Cond.selects (iy i12_layBehind).cls (iy i12_layBehind) (iy i12_layBehind) ∈ gT ∧ vwCl[12]?.map (fun q => q.1) = some (iy i12_layBehind).cls := ⟨(gk8 129 rfl rfl), (gp8 1 rfl), rfl⟩
theorem cv_x12_386 : CVw "CallStepsModel" 386 i12_layBehind 0 12 := ⟨cb_x12_386, mv12_layBehind⟩
theorem mb12_layComesUp : Cond.code (iy i12_layComesUp) (ib i12_layComesUp) (iL i12_layComesUp) (ir i12_layComesUp) ∈ gT ∧ Cond.initialized (iy i12_layComesUp).cls ∈ gT ∧ ((iy i12_layComesUp).cls ≠ "java/lang/invoke/MethodHandle" ∧ (iy i12_layComesUp).cls ≠ "java/lang/invoke/VarHandle" ∧ (parseMethodDescriptor (iy i12_layComesUp).desc).map (fun d => d.parameters.length) = some 0) := ⟨(gk8 122 rfl rfl), (gk1 13 rfl rfl), nmh_x12.1, nmh_x12.2, pd_3⟩
theorem cb_x12_383 : CB "CallStepsModel" 383 i12_layComesUp 0 := ⟨(gk8 119 rfl rfl), mb12_layComesUp⟩
theorem mv12_layComesUp : Cond.instanceMethod (iy i12_layComesUp) ∈ gT ∧ Cond.selects (iy i12_layComesUp).cls (iy i12_layComesUp) (iy i12_layComesUp) ∈ gT ∧ vwCl[12]?.map (fun q => q.1) = some (iy i12_layComesUp).cls := ⟨(gk8 121 rfl rfl), (gp8 0 rfl), rfl⟩
theorem cv_x12_383 : CVw "CallStepsModel" 383 i12_layComesUp 0 12 := ⟨cb_x12_383, mv12_layComesUp⟩
theorem mb12_isEndless : Cond.code (iy i12_isEndless) (ib i12_isEndless) (iL i12_isEndless) (ir i12_isEndless) ∈ gT ∧ Cond.initialized (iy i12_isEndless).cls ∈ gT ∧ ((iy i12_isEndless).cls ≠ "java/lang/invoke/MethodHandle" ∧ (iy i12_isEndless).cls ≠ "java/lang/invoke/VarHandle" ∧ (parseMethodDescriptor (iy i12_isEndless).desc).map (fun d => d.parameters.length) = some 0) := ⟨(gk8 142 rfl rfl), (gk1 13 rfl rfl), nmh_x12.1, nmh_x12.2, pd_26⟩
theorem cb_x12_392 : CB "CallStepsModel" 392 i12_isEndless 0 := ⟨(gk8 139 rfl rfl), mb12_isEndless⟩
theorem mv12_isEndless : Cond.instanceMethod (iy i12_isEndless) ∈ gT ∧ Cond.selects (iy i12_isEndless).cls (iy i12_isEndless) (iy i12_isEndless) ∈ gT ∧ vwCl[12]?.map (fun q => q.1) = some (iy i12_isEndless).cls := ⟨(gk8 141 rfl rfl), (gp8 3 rfl), rfl⟩
theorem cv_x12_392 : CVw "CallStepsModel" 392 i12_isEndless 0 12 := ⟨cb_x12_392, mv12_isEndless⟩
theorem mb12_four : Cond.code (iy i12_four) (ib i12_four) (iL i12_four) (ir i12_four) ∈ gT ∧ Cond.initialized (iy i12_four).cls ∈ gT ∧ ((iy i12_four).cls ≠ "java/lang/invoke/MethodHandle" ∧ (iy i12_four).cls ≠ "java/lang/invoke/VarHandle" ∧ (parseMethodDescriptor (iy i12_four).desc).map (fun d => d.parameters.length) = some 1) := ⟨(gk7 41 rfl rfl), (gk1 13 rfl rfl), nmh_x12.1, nmh_x12.2, pd_0⟩
theorem cb_x12_145 : CB "CallStepsModel" 145 i12_four 1 := ⟨(gk7 38 rfl rfl), mb12_four⟩
theorem mv12_four : Cond.instanceMethod (iy i12_four) ∈ gT ∧ Cond.selects (iy i12_four).cls (iy i12_four) (iy i12_four) ∈ gT ∧ vwCl[12]?.map (fun q => q.1) = some (iy i12_four).cls := ⟨(gk7 40 rfl rfl), (gp4 13 rfl), rfl⟩
theorem cv_x12_145 : CVw "CallStepsModel" 145 i12_four 1 12 := ⟨cb_x12_145, mv12_four⟩
theorem k_b_9 : (Int8.ofInt (9)).toInt32 = (9 : Int32) := by decide +kernel
theorem fg_x12_407 : FG "CallStepsModel" 407 12 47 0 := ⟨rfl, RX12, TX12, 55, rfl, by decide, (gk6 150 rfl rfl), ing12⟩
theorem fg_x12_88 : FG "CallStepsModel" 88 12 43 2 := ⟨rfl, RX12, TX12, 55, rfl, by decide, (gk6 146 rfl rfl), ing12⟩
theorem fp_x12_407 : FP "CallStepsModel" 407 12 47 0 false .int := ⟨rfl, RX12, TX12, 55, tyX12, ⟨rfl, by decide, (gk6 150 rfl rfl), ing12⟩, tyX12_ok, nmX12, rfl, rfl, rfl⟩
theorem fg_x12_416 : FG "CallStepsModel" 416 12 48 0 := ⟨rfl, RX12, TX12, 55, rfl, by decide, (gk6 151 rfl rfl), ing12⟩
theorem fp_x12_416 : FP "CallStepsModel" 416 12 48 0 false .int := ⟨rfl, RX12, TX12, 55, tyX12, ⟨rfl, by decide, (gk6 151 rfl rfl), ing12⟩, tyX12_ok, nmX12, rfl, rfl, rfl⟩
theorem fg_x12_98 : FG "CallStepsModel" 98 12 46 2 := ⟨rfl, RX12, TX12, 55, rfl, by decide, (gk6 149 rfl rfl), ing12⟩
theorem mb12_areAlike : Cond.code (iy i12_areAlike) (ib i12_areAlike) (iL i12_areAlike) (ir i12_areAlike) ∈ gT ∧ Cond.initialized (iy i12_areAlike).cls ∈ gT ∧ ((iy i12_areAlike).cls ≠ "java/lang/invoke/MethodHandle" ∧ (iy i12_areAlike).cls ≠ "java/lang/invoke/VarHandle" ∧ (parseMethodDescriptor (iy i12_areAlike).desc).map (fun d => d.parameters.length) = some 2) := ⟨(gk8 193 rfl rfl), (gk1 13 rfl rfl), nmh_x12.1, nmh_x12.2, pd_13⟩
theorem cb_x12_425 : CB "CallStepsModel" 425 i12_areAlike 2 := ⟨(gk8 190 rfl rfl), mb12_areAlike⟩
theorem mv12_areAlike : Cond.instanceMethod (iy i12_areAlike) ∈ gT ∧ Cond.selects (iy i12_areAlike).cls (iy i12_areAlike) (iy i12_areAlike) ∈ gT ∧ vwCl[12]?.map (fun q => q.1) = some (iy i12_areAlike).cls := ⟨(gk8 192 rfl rfl), (gp8 13 rfl), rfl⟩
theorem cv_x12_425 : CVw "CallStepsModel" 425 i12_areAlike 2 12 := ⟨cb_x12_425, mv12_areAlike⟩
theorem mb12_setBehind : Cond.code (iy i12_setBehind) (ib i12_setBehind) (iL i12_setBehind) (ir i12_setBehind) ∈ gT ∧ Cond.initialized (iy i12_setBehind).cls ∈ gT ∧ ((iy i12_setBehind).cls ≠ "java/lang/invoke/MethodHandle" ∧ (iy i12_setBehind).cls ≠ "java/lang/invoke/VarHandle" ∧ (parseMethodDescriptor (iy i12_setBehind).desc).map (fun d => d.parameters.length) = some 2) := ⟨(gk8 181 rfl rfl), (gk1 13 rfl rfl), nmh_x12.1, nmh_x12.2, pd_7⟩
theorem cb_x12_413 : CB "CallStepsModel" 413 i12_setBehind 2 := ⟨(gk8 178 rfl rfl), mb12_setBehind⟩
theorem mv12_setBehind : Cond.instanceMethod (iy i12_setBehind) ∈ gT ∧ Cond.selects (iy i12_setBehind).cls (iy i12_setBehind) (iy i12_setBehind) ∈ gT ∧ vwCl[12]?.map (fun q => q.1) = some (iy i12_setBehind).cls := ⟨(gk8 180 rfl rfl), (gp8 10 rfl), rfl⟩
theorem cv_x12_413 : CVw "CallStepsModel" 413 i12_setBehind 2 12 := ⟨cb_x12_413, mv12_setBehind⟩
theorem mb12_setFor : Cond.code (iy i12_setFor) (ib i12_setFor) (iL i12_setFor) (ir i12_setFor) ∈ gT ∧ Cond.initialized (iy i12_setFor).cls ∈ gT ∧ ((iy i12_setFor).cls ≠ "java/lang/invoke/MethodHandle" ∧ (iy i12_setFor).cls ≠ "java/lang/invoke/VarHandle" ∧ (parseMethodDescriptor (iy i12_setFor).desc).map (fun d => d.parameters.length) = some 1) := ⟨(gk8 177 rfl rfl), (gk1 13 rfl rfl), nmh_x12.1, nmh_x12.2, pd_1⟩
theorem cb_x12_410 : CB "CallStepsModel" 410 i12_setFor 1 := ⟨(gk8 174 rfl rfl), mb12_setFor⟩
theorem mv12_setFor : Cond.instanceMethod (iy i12_setFor) ∈ gT ∧ Cond.selects (iy i12_setFor).cls (iy i12_setFor) (iy i12_setFor) ∈ gT ∧ vwCl[12]?.map (fun q => q.1) = some (iy i12_setFor).cls := ⟨(gk8 176 rfl rfl), (gp8 9 rfl), rfl⟩
theorem cv_x12_410 : CVw "CallStepsModel" 410 i12_setFor 1 12 := ⟨cb_x12_410, mv12_setFor⟩
theorem mb12_laysParts : Cond.code (iy i12_laysParts) (ib i12_laysParts) (iL i12_laysParts) (ir i12_laysParts) ∈ gT ∧ Cond.initialized (iy i12_laysParts).cls ∈ gT ∧ ((iy i12_laysParts).cls ≠ "java/lang/invoke/MethodHandle" ∧ (iy i12_laysParts).cls ≠ "java/lang/invoke/VarHandle" ∧ (parseMethodDescriptor (iy i12_laysParts).desc).map (fun d => d.parameters.length) = some 0) := ⟨(gk8 189 rfl rfl), (gk1 13 rfl rfl), nmh_x12.1, nmh_x12.2, pd_3⟩
theorem cb_x12_422 : CB "CallStepsModel" 422 i12_laysParts 0 := ⟨(gk8 186 rfl rfl), mb12_laysParts⟩
theorem mv12_laysParts : Cond.instanceMethod (iy i12_laysParts) ∈ gT ∧ Cond.selects (iy i12_laysParts).cls (iy i12_laysParts) (iy i12_laysParts) ∈ gT ∧ vwCl[12]?.map (fun q => q.1) = some (iy i12_laysParts).cls := ⟨(gk8 188 rfl rfl), (gp8 12 rfl), rfl⟩
theorem cv_x12_422 : CVw "CallStepsModel" 422 i12_laysParts 0 12 := ⟨cb_x12_422, mv12_laysParts⟩
theorem mb12_isGoodSet : Cond.code (iy i12_isGoodSet) (ib i12_isGoodSet) (iL i12_isGoodSet) (ir i12_isGoodSet) ∈ gT ∧ Cond.initialized (iy i12_isGoodSet).cls ∈ gT ∧ ((iy i12_isGoodSet).cls ≠ "java/lang/invoke/MethodHandle" ∧ (iy i12_isGoodSet).cls ≠ "java/lang/invoke/VarHandle" ∧ (parseMethodDescriptor (iy i12_isGoodSet).desc).map (fun d => d.parameters.length) = some 1) := ⟨(gk8 185 rfl rfl), (gk1 13 rfl rfl), nmh_x12.1, nmh_x12.2, pd_12⟩
theorem cb_x12_419 : CB "CallStepsModel" 419 i12_isGoodSet 1 := ⟨(gk8 182 rfl rfl), mb12_isGoodSet⟩
theorem mv12_isGoodSet : Cond.instanceMethod (iy i12_isGoodSet) ∈ gT ∧ Cond.selects (iy i12_isGoodSet).cls (iy i12_isGoodSet) (iy i12_isGoodSet) ∈ gT ∧ vwCl[12]?.map (fun q => q.1) = some (iy i12_isGoodSet).cls := ⟨(gk8 184 rfl rfl), (gp8 11 rfl), rfl⟩
theorem cv_x12_419 : CVw "CallStepsModel" 419 i12_isGoodSet 1 12 := ⟨cb_x12_419, mv12_isGoodSet⟩
theorem fg_x12_246 : FG "CallStepsModel" 246 12 49 0 := ⟨rfl, RX12, TX12, 55, rfl, by decide, (gk6 152 rfl rfl), ing12⟩
theorem fp_x12_246 : FP "CallStepsModel" 246 12 49 0 false .boolean := ⟨rfl, RX12, TX12, 55, tyX12, ⟨rfl, by decide, (gk6 152 rfl rfl), ing12⟩, tyX12_ok, nmX12, rfl, rfl, rfl⟩
theorem fg_x12_104 : FG "CallStepsModel" 104 12 51 2 := ⟨rfl, RX12, TX12, 55, rfl, by decide, (gk6 154 rfl rfl), ing12⟩
theorem fg_x12_428 : FG "CallStepsModel" 428 12 52 0 := ⟨rfl, RX12, TX12, 55, rfl, by decide, (gk6 155 rfl rfl), ing12⟩
theorem fg_x12_101 : FG "CallStepsModel" 101 12 50 2 := ⟨rfl, RX12, TX12, 55, rfl, by decide, (gk6 153 rfl rfl), ing12⟩
theorem fp_x12_428 : FP "CallStepsModel" 428 12 52 0 false .int := ⟨rfl, RX12, TX12, 55, tyX12, ⟨rfl, by decide, (gk6 155 rfl rfl), ing12⟩, tyX12_ok, nmX12, rfl, rfl, rfl⟩
theorem mb12_nodeFor : Cond.code (iy i12_nodeFor) (ib i12_nodeFor) (iL i12_nodeFor) (ir i12_nodeFor) ∈ gT ∧ Cond.initialized (iy i12_nodeFor).cls ∈ gT ∧ ((iy i12_nodeFor).cls ≠ "java/lang/invoke/MethodHandle" ∧ (iy i12_nodeFor).cls ≠ "java/lang/invoke/VarHandle" ∧ (parseMethodDescriptor (iy i12_nodeFor).desc).map (fun d => d.parameters.length) = some 1) := ⟨(gk8 197 rfl rfl), (gk1 13 rfl rfl), nmh_x12.1, nmh_x12.2, pd_1⟩
theorem cb_x12_434 : CB "CallStepsModel" 434 i12_nodeFor 1 := ⟨(gk8 194 rfl rfl), mb12_nodeFor⟩
theorem mv12_nodeFor : Cond.instanceMethod (iy i12_nodeFor) ∈ gT ∧ Cond.selects (iy i12_nodeFor).cls (iy i12_nodeFor) (iy i12_nodeFor) ∈ gT ∧ vwCl[12]?.map (fun q => q.1) = some (iy i12_nodeFor).cls := ⟨(gk8 196 rfl rfl), (gp8 14 rfl), rfl⟩
theorem cv_x12_434 : CVw "CallStepsModel" 434 i12_nodeFor 1 12 := ⟨cb_x12_434, mv12_nodeFor⟩
theorem mb12_layMachines : Cond.code (iy i12_layMachines) (ib i12_layMachines) (iL i12_layMachines) (ir i12_layMachines) ∈ gT ∧ Cond.initialized (iy i12_layMachines).cls ∈ gT ∧ ((iy i12_layMachines).cls ≠ "java/lang/invoke/MethodHandle" ∧ (iy i12_layMachines).cls ≠ "java/lang/invoke/VarHandle" ∧ (parseMethodDescriptor (iy i12_layMachines).desc).map (fun d => d.parameters.length) = some 0) := ⟨(gk8 173 rfl rfl), (gk1 13 rfl rfl), nmh_x12.1, nmh_x12.2, pd_3⟩
theorem cb_x12_431 : CB "CallStepsModel" 431 i12_layMachines 0 := ⟨(gk8 170 rfl rfl), mb12_layMachines⟩
theorem mv12_layMachines : Cond.instanceMethod (iy i12_layMachines) ∈ gT ∧ Cond.selects (iy i12_layMachines).cls (iy i12_layMachines) (iy i12_layMachines) ∈ gT ∧ vwCl[12]?.map (fun q => q.1) = some (iy i12_layMachines).cls := ⟨(gk8 172 rfl rfl), (gp8 8 rfl), rfl⟩
theorem cv_x12_431 : CVw "CallStepsModel" 431 i12_layMachines 0 12 := ⟨cb_x12_431, mv12_layMachines⟩
theorem mb12_layMachine : Cond.code (iy i12_layMachine) (ib i12_layMachine) (iL i12_layMachine) (ir i12_layMachine) ∈ gT ∧ Cond.initialized (iy i12_layMachine).cls ∈ gT ∧ ((iy i12_layMachine).cls ≠ "java/lang/invoke/MethodHandle" ∧ (iy i12_layMachine).cls ≠ "java/lang/invoke/VarHandle" ∧ (parseMethodDescriptor (iy i12_layMachine).desc).map (fun d => d.parameters.length) = some 1) := ⟨(gk8 169 rfl rfl), (gk1 13 rfl rfl), nmh_x12.1, nmh_x12.2, pd_0⟩
theorem cb_x12_437 : CB "CallStepsModel" 437 i12_layMachine 1 := ⟨(gk8 166 rfl rfl), mb12_layMachine⟩
theorem mv12_layMachine : Cond.instanceMethod (iy i12_layMachine) ∈ gT ∧ Cond.selects (iy i12_layMachine).cls (iy i12_layMachine) (iy i12_layMachine) ∈ gT ∧ vwCl[12]?.map (fun q => q.1) = some (iy i12_layMachine).cls := ⟨(gk8 168 rfl rfl), (gp8 7 rfl), rfl⟩
theorem cv_x12_437 : CVw "CallStepsModel" 437 i12_layMachine 1 12 := ⟨cb_x12_437, mv12_layMachine⟩
theorem fg_x12_69 : FG "CallStepsModel" 69 12 37 2 := ⟨rfl, RX12, TX12, 55, rfl, by decide, (gk6 140 rfl rfl), ing12⟩
theorem mb12_greater : Cond.code (iy i12_greater) (ib i12_greater) (iL i12_greater) (ir i12_greater) ∈ gT ∧ Cond.initialized (iy i12_greater).cls ∈ gT ∧ ((iy i12_greater).cls ≠ "java/lang/invoke/MethodHandle" ∧ (iy i12_greater).cls ≠ "java/lang/invoke/VarHandle" ∧ (parseMethodDescriptor (iy i12_greater).desc).map (fun d => d.parameters.length) = some 2) := ⟨(gk8 114 rfl rfl), (gk1 13 rfl rfl), nmh_x12.1, nmh_x12.2, pd_7⟩
theorem cb_x12_377 : CB "CallStepsModel" 377 i12_greater 2 := ⟨(gk8 112 rfl rfl), mb12_greater⟩
theorem cs_x12_377 : CSw "CallStepsModel" 377 i12_greater 2 := ⟨cb_x12_377, (gk8 113 rfl rfl)⟩
theorem k_s_1000 : (Int16.ofInt (1000)).toInt32 = (1000 : Int32) := by decide +kernel
theorem mb12_riseBy : Cond.code (iy i12_riseBy) (ib i12_riseBy) (iL i12_riseBy) (ir i12_riseBy) ∈ gT ∧ Cond.initialized (iy i12_riseBy).cls ∈ gT ∧ ((iy i12_riseBy).cls ≠ "java/lang/invoke/MethodHandle" ∧ (iy i12_riseBy).cls ≠ "java/lang/invoke/VarHandle" ∧ (parseMethodDescriptor (iy i12_riseBy).desc).map (fun d => d.parameters.length) = some 1) := ⟨(gk8 107 rfl rfl), (gk1 13 rfl rfl), nmh_x12.1, nmh_x12.2, pd_1⟩
theorem cb_x12_371 : CB "CallStepsModel" 371 i12_riseBy 1 := ⟨(gk8 104 rfl rfl), mb12_riseBy⟩
theorem mv12_riseBy : Cond.instanceMethod (iy i12_riseBy) ∈ gT ∧ Cond.selects (iy i12_riseBy).cls (iy i12_riseBy) (iy i12_riseBy) ∈ gT ∧ vwCl[12]?.map (fun q => q.1) = some (iy i12_riseBy).cls := ⟨(gk8 106 rfl rfl), (gp7 14 rfl), rfl⟩
theorem cv_x12_371 : CVw "CallStepsModel" 371 i12_riseBy 1 12 := ⟨cb_x12_371, mv12_riseBy⟩
theorem mb12_layRise : Cond.code (iy i12_layRise) (ib i12_layRise) (iL i12_layRise) (ir i12_layRise) ∈ gT ∧ Cond.initialized (iy i12_layRise).cls ∈ gT ∧ ((iy i12_layRise).cls ≠ "java/lang/invoke/MethodHandle" ∧ (iy i12_layRise).cls ≠ "java/lang/invoke/VarHandle" ∧ (parseMethodDescriptor (iy i12_layRise).desc).map (fun d => d.parameters.length) = some 0) := ⟨(gk8 99 rfl rfl), (gk1 13 rfl rfl), nmh_x12.1, nmh_x12.2, pd_3⟩
theorem cb_x12_380 : CB "CallStepsModel" 380 i12_layRise 0 := ⟨(gk8 96 rfl rfl), mb12_layRise⟩
theorem mv12_layRise : Cond.instanceMethod (iy i12_layRise) ∈ gT ∧ Cond.selects (iy i12_layRise).cls (iy i12_layRise) (iy i12_layRise) ∈ gT ∧ vwCl[12]?.map (fun q => q.1) = some (iy i12_layRise).cls := ⟨(gk8 98 rfl rfl), (gp7 12 rfl), rfl⟩
theorem cv_x12_380 : CVw "CallStepsModel" 380 i12_layRise 0 12 := ⟨cb_x12_380, mv12_layRise⟩
theorem oi_x12_1 : Cond.methodLink "CallStepsModel" 1 objectInit ∈ gT ∧ Cond.instanceMethod objectInit ∈ gT ∧ Cond.code objectInit ⟨#[0xb1]⟩ 1 none ∈ gT := ⟨(gk6 101 rfl rfl), (gk1 28 rfl rfl), (gk1 29 rfl rfl)⟩
theorem fp_x12_7 : FP "CallStepsModel" 7 12 1 2 true (.array .int) := ⟨rfl, RX12, TX12, 55, tyX12, ⟨rfl, by decide, (gk6 104 rfl rfl), ing12⟩, tyX12_ok, nmX12, rfl, rfl, rfl⟩
theorem fp_x12_13 : FP "CallStepsModel" 13 12 2 2 true (.array .int) := ⟨rfl, RX12, TX12, 55, tyX12, ⟨rfl, by decide, (gk6 105 rfl rfl), ing12⟩, tyX12_ok, nmX12, rfl, rfl, rfl⟩
theorem k_s_196 : (Int16.ofInt (196)).toInt32 = (196 : Int32) := by decide +kernel
theorem fp_x12_16 : FP "CallStepsModel" 16 12 3 2 true (.array .int) := ⟨rfl, RX12, TX12, 55, tyX12, ⟨rfl, by decide, (gk6 106 rfl rfl), ing12⟩, tyX12_ok, nmX12, rfl, rfl, rfl⟩
theorem fp_x12_19 : FP "CallStepsModel" 19 12 4 2 true (.array .int) := ⟨rfl, RX12, TX12, 55, tyX12, ⟨rfl, by decide, (gk6 107 rfl rfl), ing12⟩, tyX12_ok, nmX12, rfl, rfl, rfl⟩
theorem fp_x12_22 : FP "CallStepsModel" 22 12 6 2 true (.array .int) := ⟨rfl, RX12, TX12, 55, tyX12, ⟨rfl, by decide, (gk6 109 rfl rfl), ing12⟩, tyX12_ok, nmX12, rfl, rfl, rfl⟩
theorem fp_x12_29 : FP "CallStepsModel" 29 12 17 2 true (.array .int) := ⟨rfl, RX12, TX12, 55, tyX12, ⟨rfl, by decide, (gk6 120 rfl rfl), ing12⟩, tyX12_ok, nmX12, rfl, rfl, rfl⟩
theorem fp_x12_32 : FP "CallStepsModel" 32 12 18 2 true (.array .int) := ⟨rfl, RX12, TX12, 55, tyX12, ⟨rfl, by decide, (gk6 121 rfl rfl), ing12⟩, tyX12_ok, nmX12, rfl, rfl, rfl⟩
theorem fp_x12_35 : FP "CallStepsModel" 35 12 22 2 true (.array .int) := ⟨rfl, RX12, TX12, 55, tyX12, ⟨rfl, by decide, (gk6 125 rfl rfl), ing12⟩, tyX12_ok, nmX12, rfl, rfl, rfl⟩
theorem fp_x12_38 : FP "CallStepsModel" 38 12 24 2 true (.array .int) := ⟨rfl, RX12, TX12, 55, tyX12, ⟨rfl, by decide, (gk6 127 rfl rfl), ing12⟩, tyX12_ok, nmX12, rfl, rfl, rfl⟩
theorem fp_x12_41 : FP "CallStepsModel" 41 12 25 2 true (.array .int) := ⟨rfl, RX12, TX12, 55, tyX12, ⟨rfl, by decide, (gk6 128 rfl rfl), ing12⟩, tyX12_ok, nmX12, rfl, rfl, rfl⟩
theorem fp_x12_44 : FP "CallStepsModel" 44 12 26 2 true (.array .int) := ⟨rfl, RX12, TX12, 55, tyX12, ⟨rfl, by decide, (gk6 129 rfl rfl), ing12⟩, tyX12_ok, nmX12, rfl, rfl, rfl⟩
theorem fp_x12_47 : FP "CallStepsModel" 47 12 27 2 true (.array .int) := ⟨rfl, RX12, TX12, 55, tyX12, ⟨rfl, by decide, (gk6 130 rfl rfl), ing12⟩, tyX12_ok, nmX12, rfl, rfl, rfl⟩
theorem fp_x12_50 : FP "CallStepsModel" 50 12 28 2 true (.array .long) := ⟨rfl, RX12, TX12, 55, tyX12, ⟨rfl, by decide, (gk6 131 rfl rfl), ing12⟩, tyX12_ok, nmX12, rfl, rfl, rfl⟩
theorem fp_x12_54 : FP "CallStepsModel" 54 12 29 2 true (.array .long) := ⟨rfl, RX12, TX12, 55, tyX12, ⟨rfl, by decide, (gk6 132 rfl rfl), ing12⟩, tyX12_ok, nmX12, rfl, rfl, rfl⟩
theorem k_s_4200 : (Int16.ofInt (4200)).toInt32 = (4200 : Int32) := by decide +kernel
theorem fp_x12_57 : FP "CallStepsModel" 57 12 32 2 true (.array .long) := ⟨rfl, RX12, TX12, 55, tyX12, ⟨rfl, by decide, (gk6 135 rfl rfl), ing12⟩, tyX12_ok, nmX12, rfl, rfl, rfl⟩
theorem k_s_200 : (Int16.ofInt (200)).toInt32 = (200 : Int32) := by decide +kernel
theorem fg_x12_60 : FG "CallStepsModel" 60 12 33 2 := ⟨rfl, RX12, TX12, 55, rfl, by decide, (gk6 136 rfl rfl), ing12⟩
theorem fp_x12_60 : FP "CallStepsModel" 60 12 33 2 true (.array .int) := ⟨rfl, RX12, TX12, 55, tyX12, ⟨rfl, by decide, (gk6 136 rfl rfl), ing12⟩, tyX12_ok, nmX12, rfl, rfl, rfl⟩
theorem fg_x12_63 : FG "CallStepsModel" 63 12 34 2 := ⟨rfl, RX12, TX12, 55, rfl, by decide, (gk6 137 rfl rfl), ing12⟩
theorem fp_x12_63 : FP "CallStepsModel" 63 12 34 2 true (.array .int) := ⟨rfl, RX12, TX12, 55, tyX12, ⟨rfl, by decide, (gk6 137 rfl rfl), ing12⟩, tyX12_ok, nmX12, rfl, rfl, rfl⟩
theorem fg_x12_66 : FG "CallStepsModel" 66 12 35 2 := ⟨rfl, RX12, TX12, 55, rfl, by decide, (gk6 138 rfl rfl), ing12⟩
theorem fp_x12_66 : FP "CallStepsModel" 66 12 35 2 true (.array .int) := ⟨rfl, RX12, TX12, 55, tyX12, ⟨rfl, by decide, (gk6 138 rfl rfl), ing12⟩, tyX12_ok, nmX12, rfl, rfl, rfl⟩
theorem fp_x12_69 : FP "CallStepsModel" 69 12 37 2 true (.array .int) := ⟨rfl, RX12, TX12, 55, tyX12, ⟨rfl, by decide, (gk6 140 rfl rfl), ing12⟩, tyX12_ok, nmX12, rfl, rfl, rfl⟩
theorem ac_boolean : Cond.arrayClass .boolean ∈ gT := (gk7 29 rfl rfl)
theorem fp_x12_72 : FP "CallStepsModel" 72 12 38 2 true (.array .boolean) := ⟨rfl, RX12, TX12, 55, tyX12, ⟨rfl, by decide, (gk6 141 rfl rfl), ing12⟩, tyX12_ok, nmX12, rfl, rfl, rfl⟩
theorem k_s_205 : (Int16.ofInt (205)).toInt32 = (205 : Int32) := by decide +kernel
theorem fp_x12_76 : FP "CallStepsModel" 76 12 39 2 true (.array .boolean) := ⟨rfl, RX12, TX12, 55, tyX12, ⟨rfl, by decide, (gk6 142 rfl rfl), ing12⟩, tyX12_ok, nmX12, rfl, rfl, rfl⟩
theorem fg_x12_79 : FG "CallStepsModel" 79 12 40 2 := ⟨rfl, RX12, TX12, 55, rfl, by decide, (gk6 143 rfl rfl), ing12⟩
theorem fp_x12_79 : FP "CallStepsModel" 79 12 40 2 true (.array .long) := ⟨rfl, RX12, TX12, 55, tyX12, ⟨rfl, by decide, (gk6 143 rfl rfl), ing12⟩, tyX12_ok, nmX12, rfl, rfl, rfl⟩
theorem fg_x12_82 : FG "CallStepsModel" 82 12 41 2 := ⟨rfl, RX12, TX12, 55, rfl, by decide, (gk6 144 rfl rfl), ing12⟩
theorem fp_x12_82 : FP "CallStepsModel" 82 12 41 2 true (.array .long) := ⟨rfl, RX12, TX12, 55, tyX12, ⟨rfl, by decide, (gk6 144 rfl rfl), ing12⟩, tyX12_ok, nmX12, rfl, rfl, rfl⟩
theorem fg_x12_85 : FG "CallStepsModel" 85 12 42 2 := ⟨rfl, RX12, TX12, 55, rfl, by decide, (gk6 145 rfl rfl), ing12⟩
theorem fp_x12_85 : FP "CallStepsModel" 85 12 42 2 true (.array .long) := ⟨rfl, RX12, TX12, 55, tyX12, ⟨rfl, by decide, (gk6 145 rfl rfl), ing12⟩, tyX12_ok, nmX12, rfl, rfl, rfl⟩
theorem k_s_8192 : (Int16.ofInt (8192)).toInt32 = (8192 : Int32) := by decide +kernel
theorem fp_x12_88 : FP "CallStepsModel" 88 12 43 2 true (.array .int) := ⟨rfl, RX12, TX12, 55, tyX12, ⟨rfl, by decide, (gk6 146 rfl rfl), ing12⟩, tyX12_ok, nmX12, rfl, rfl, rfl⟩
theorem kc_x12_91 : Cond.constant "CallStepsModel" 91 (49152 : Int32) ∈ gT := (gk6 102 rfl rfl)
theorem fp_x12_92 : FP "CallStepsModel" 92 12 44 2 true (.array .int) := ⟨rfl, RX12, TX12, 55, tyX12, ⟨rfl, by decide, (gk6 147 rfl rfl), ing12⟩, tyX12_ok, nmX12, rfl, rfl, rfl⟩
theorem fp_x12_95 : FP "CallStepsModel" 95 12 45 2 true (.array .int) := ⟨rfl, RX12, TX12, 55, tyX12, ⟨rfl, by decide, (gk6 148 rfl rfl), ing12⟩, tyX12_ok, nmX12, rfl, rfl, rfl⟩
theorem fp_x12_98 : FP "CallStepsModel" 98 12 46 2 true (.array .int) := ⟨rfl, RX12, TX12, 55, tyX12, ⟨rfl, by decide, (gk6 149 rfl rfl), ing12⟩, tyX12_ok, nmX12, rfl, rfl, rfl⟩
theorem fp_x12_101 : FP "CallStepsModel" 101 12 50 2 true (.array .int) := ⟨rfl, RX12, TX12, 55, tyX12, ⟨rfl, by decide, (gk6 153 rfl rfl), ing12⟩, tyX12_ok, nmX12, rfl, rfl, rfl⟩
theorem fp_x12_104 : FP "CallStepsModel" 104 12 51 2 true (.array .int) := ⟨rfl, RX12, TX12, 55, tyX12, ⟨rfl, by decide, (gk6 154 rfl rfl), ing12⟩, tyX12_ok, nmX12, rfl, rfl, rfl⟩
theorem k_s_16384 : (Int16.ofInt (16384)).toInt32 = (16384 : Int32) := by decide +kernel
theorem fg_x12_107 : FG "CallStepsModel" 107 12 53 2 := ⟨rfl, RX12, TX12, 55, rfl, by decide, (gk6 156 rfl rfl), ing12⟩
theorem fp_x12_107 : FP "CallStepsModel" 107 12 53 2 true (.array .long) := ⟨rfl, RX12, TX12, 55, tyX12, ⟨rfl, by decide, (gk6 156 rfl rfl), ing12⟩, tyX12_ok, nmX12, rfl, rfl, rfl⟩
theorem fg_x12_110 : FG "CallStepsModel" 110 12 54 2 := ⟨rfl, RX12, TX12, 55, rfl, by decide, (gk6 157 rfl rfl), ing12⟩
theorem fp_x12_110 : FP "CallStepsModel" 110 12 54 2 true (.array .int) := ⟨rfl, RX12, TX12, 55, tyX12, ⟨rfl, by decide, (gk6 157 rfl rfl), ing12⟩, tyX12_ok, nmX12, rfl, rfl, rfl⟩
theorem mb12_behindRule : Cond.code (iy i12_behindRule) (ib i12_behindRule) (iL i12_behindRule) (ir i12_behindRule) ∈ gT ∧ Cond.initialized (iy i12_behindRule).cls ∈ gT ∧ ((iy i12_behindRule).cls ≠ "java/lang/invoke/MethodHandle" ∧ (iy i12_behindRule).cls ≠ "java/lang/invoke/VarHandle" ∧ (parseMethodDescriptor (iy i12_behindRule).desc).map (fun d => d.parameters.length) = some 2) := ⟨(gk8 50 rfl rfl), (gk1 13 rfl rfl), nmh_x12.1, nmh_x12.2, pd_9⟩
theorem cb_x12_338 : CB "CallStepsModel" 338 i12_behindRule 2 := ⟨(gk8 47 rfl rfl), mb12_behindRule⟩
theorem mv12_behindRule : Cond.instanceMethod (iy i12_behindRule) ∈ gT ∧ Cond.selects (iy i12_behindRule).cls (iy i12_behindRule) (iy i12_behindRule) ∈ gT ∧ vwCl[12]?.map (fun q => q.1) = some (iy i12_behindRule).cls := ⟨(gk8 49 rfl rfl), (gp7 5 rfl), rfl⟩
theorem cv_x12_338 : CVw "CallStepsModel" 338 i12_behindRule 2 12 := ⟨cb_x12_338, mv12_behindRule⟩
theorem fg_x12_333 : FG "CallStepsModel" 333 12 36 0 := ⟨rfl, RX12, TX12, 55, rfl, by decide, (gk6 139 rfl rfl), ing12⟩
theorem fp_x12_333 : FP "CallStepsModel" 333 12 36 0 false .int := ⟨rfl, RX12, TX12, 55, tyX12, ⟨rfl, by decide, (gk6 139 rfl rfl), ing12⟩, tyX12_ok, nmX12, rfl, rfl, rfl⟩
theorem pd_54 : (parseMethodDescriptor "(I[II)Z").map (fun d => d.parameters.length) = some 3 := by decide +kernel
theorem mb12_isAt : Cond.code (iy i12_isAt) (ib i12_isAt) (iL i12_isAt) (ir i12_isAt) ∈ gT ∧ Cond.initialized (iy i12_isAt).cls ∈ gT ∧ ((iy i12_isAt).cls ≠ "java/lang/invoke/MethodHandle" ∧ (iy i12_isAt).cls ≠ "java/lang/invoke/VarHandle" ∧ (parseMethodDescriptor (iy i12_isAt).desc).map (fun d => d.parameters.length) = some 3) := ⟨(gk7 176 rfl rfl), (gk1 13 rfl rfl), nmh_x12.1, nmh_x12.2, pd_54⟩
theorem cb_x12_264 : CB "CallStepsModel" 264 i12_isAt 3 := ⟨(gk7 173 rfl rfl), mb12_isAt⟩
theorem mv12_isAt : Cond.instanceMethod (iy i12_isAt) ∈ gT ∧ Cond.selects (iy i12_isAt).cls (iy i12_isAt) (iy i12_isAt) ∈ gT ∧ vwCl[12]?.map (fun q => q.1) = some (iy i12_isAt).cls := ⟨(gk7 175 rfl rfl), (gp6 2 rfl), rfl⟩
theorem cv_x12_264 : CVw "CallStepsModel" 264 i12_isAt 3 12 := ⟨cb_x12_264, mv12_isAt⟩
theorem kc_x12_336 : Cond.constantLong "CallStepsModel" 336 (9900 : Int64) ∈ gT := (gk8 46 rfl rfl)
theorem mb12_isHead : Cond.code (iy i12_isHead) (ib i12_isHead) (iL i12_isHead) (ir i12_isHead) ∈ gT ∧ Cond.initialized (iy i12_isHead).cls ∈ gT ∧ ((iy i12_isHead).cls ≠ "java/lang/invoke/MethodHandle" ∧ (iy i12_isHead).cls ≠ "java/lang/invoke/VarHandle" ∧ (parseMethodDescriptor (iy i12_isHead).desc).map (fun d => d.parameters.length) = some 2) := ⟨(gk8 58 rfl rfl), (gk1 13 rfl rfl), nmh_x12.1, nmh_x12.2, pd_13⟩
theorem cb_x12_356 : CB "CallStepsModel" 356 i12_isHead 2 := ⟨(gk8 55 rfl rfl), mb12_isHead⟩
theorem mv12_isHead : Cond.instanceMethod (iy i12_isHead) ∈ gT ∧ Cond.selects (iy i12_isHead).cls (iy i12_isHead) (iy i12_isHead) ∈ gT ∧ vwCl[12]?.map (fun q => q.1) = some (iy i12_isHead).cls := ⟨(gk8 57 rfl rfl), (gp7 6 rfl), rfl⟩
theorem cv_x12_356 : CVw "CallStepsModel" 356 i12_isHead 2 12 := ⟨cb_x12_356, mv12_isHead⟩
theorem mb12_longer : Cond.code (iy i12_longer) (ib i12_longer) (iL i12_longer) (ir i12_longer) ∈ gT ∧ Cond.initialized (iy i12_longer).cls ∈ gT ∧ ((iy i12_longer).cls ≠ "java/lang/invoke/MethodHandle" ∧ (iy i12_longer).cls ≠ "java/lang/invoke/VarHandle" ∧ (parseMethodDescriptor (iy i12_longer).desc).map (fun d => d.parameters.length) = some 2) := ⟨(gk8 161 rfl rfl), (gk1 13 rfl rfl), nmh_x12.1, nmh_x12.2, pd_10⟩
theorem cb_x12_401 : CB "CallStepsModel" 401 i12_longer 2 := ⟨(gk8 159 rfl rfl), mb12_longer⟩
theorem cs_x12_401 : CSw "CallStepsModel" 401 i12_longer 2 := ⟨cb_x12_401, (gk8 160 rfl rfl)⟩
theorem mb12_popCell : Cond.code (iy i12_popCell) (ib i12_popCell) (iL i12_popCell) (ir i12_popCell) ∈ gT ∧ Cond.initialized (iy i12_popCell).cls ∈ gT ∧ ((iy i12_popCell).cls ≠ "java/lang/invoke/MethodHandle" ∧ (iy i12_popCell).cls ≠ "java/lang/invoke/VarHandle" ∧ (parseMethodDescriptor (iy i12_popCell).desc).map (fun d => d.parameters.length) = some 3) := ⟨(gk8 158 rfl rfl), (gk1 13 rfl rfl), nmh_x12.1, nmh_x12.2, pd_48⟩
theorem cb_x12_398 : CB "CallStepsModel" 398 i12_popCell 3 := ⟨(gk8 155 rfl rfl), mb12_popCell⟩
theorem mv12_popCell : Cond.instanceMethod (iy i12_popCell) ∈ gT ∧ Cond.selects (iy i12_popCell).cls (iy i12_popCell) (iy i12_popCell) ∈ gT ∧ vwCl[12]?.map (fun q => q.1) = some (iy i12_popCell).cls := ⟨(gk8 157 rfl rfl), (gp8 6 rfl), rfl⟩
theorem cv_x12_398 : CVw "CallStepsModel" 398 i12_popCell 3 12 := ⟨cb_x12_398, mv12_popCell⟩
theorem mb12_mostBy : Cond.code (iy i12_mostBy) (ib i12_mostBy) (iL i12_mostBy) (ir i12_mostBy) ∈ gT ∧ Cond.initialized (iy i12_mostBy).cls ∈ gT ∧ ((iy i12_mostBy).cls ≠ "java/lang/invoke/MethodHandle" ∧ (iy i12_mostBy).cls ≠ "java/lang/invoke/VarHandle" ∧ (parseMethodDescriptor (iy i12_mostBy).desc).map (fun d => d.parameters.length) = some 1) := ⟨(gk8 154 rfl rfl), (gk1 13 rfl rfl), nmh_x12.1, nmh_x12.2, pd_0⟩
theorem cb_x12_395 : CB "CallStepsModel" 395 i12_mostBy 1 := ⟨(gk8 151 rfl rfl), mb12_mostBy⟩
theorem mv12_mostBy : Cond.instanceMethod (iy i12_mostBy) ∈ gT ∧ Cond.selects (iy i12_mostBy).cls (iy i12_mostBy) (iy i12_mostBy) ∈ gT ∧ vwCl[12]?.map (fun q => q.1) = some (iy i12_mostBy).cls := ⟨(gk8 153 rfl rfl), (gp8 5 rfl), rfl⟩
theorem cv_x12_395 : CVw "CallStepsModel" 395 i12_mostBy 1 12 := ⟨cb_x12_395, mv12_mostBy⟩
theorem kc_x12_359 : Cond.constantLong "CallStepsModel" 359 (-2 : Int64) ∈ gT := (gk8 75 rfl rfl)
theorem mb12_layMost : Cond.code (iy i12_layMost) (ib i12_layMost) (iL i12_layMost) (ir i12_layMost) ∈ gT ∧ Cond.initialized (iy i12_layMost).cls ∈ gT ∧ ((iy i12_layMost).cls ≠ "java/lang/invoke/MethodHandle" ∧ (iy i12_layMost).cls ≠ "java/lang/invoke/VarHandle" ∧ (parseMethodDescriptor (iy i12_layMost).desc).map (fun d => d.parameters.length) = some 0) := ⟨(gk8 150 rfl rfl), (gk1 13 rfl rfl), nmh_x12.1, nmh_x12.2, pd_3⟩
theorem cb_x12_404 : CB "CallStepsModel" 404 i12_layMost 0 := ⟨(gk8 147 rfl rfl), mb12_layMost⟩
theorem mv12_layMost : Cond.instanceMethod (iy i12_layMost) ∈ gT ∧ Cond.selects (iy i12_layMost).cls (iy i12_layMost) (iy i12_layMost) ∈ gT ∧ vwCl[12]?.map (fun q => q.1) = some (iy i12_layMost).cls := ⟨(gk8 149 rfl rfl), (gp8 4 rfl), rfl⟩
theorem cv_x12_404 : CVw "CallStepsModel" 404 i12_layMost 0 12 := ⟨cb_x12_404, mv12_layMost⟩
theorem mb12_cost : Cond.code (iy i12_cost) (ib i12_cost) (iL i12_cost) (ir i12_cost) ∈ gT ∧ Cond.initialized (iy i12_cost).cls ∈ gT ∧ ((iy i12_cost).cls ≠ "java/lang/invoke/MethodHandle" ∧ (iy i12_cost).cls ≠ "java/lang/invoke/VarHandle" ∧ (parseMethodDescriptor (iy i12_cost).desc).map (fun d => d.parameters.length) = some 0) := ⟨(gk7 212 rfl rfl), (gk1 13 rfl rfl), nmh_x12.1, nmh_x12.2, pd_40⟩
theorem cb_x12_342 : CB "CallStepsModel" 342 i12_cost 0 := ⟨(gk8 41 rfl rfl), mb12_cost⟩
theorem mv12_cost : Cond.instanceMethod (iy i12_cost) ∈ gT ∧ Cond.selects (iy i12_cost).cls (iy i12_cost) (iy i12_cost) ∈ gT ∧ vwCl[12]?.map (fun q => q.1) = some (iy i12_cost).cls := ⟨(gk7 210 rfl rfl), (gk7 211 rfl rfl), rfl⟩
theorem cv_x12_342 : CVw "CallStepsModel" 342 i12_cost 0 12 := ⟨cb_x12_342, mv12_cost⟩
theorem mb12_isRule : Cond.code (iy i12_isRule) (ib i12_isRule) (iL i12_isRule) (ir i12_isRule) ∈ gT ∧ Cond.initialized (iy i12_isRule).cls ∈ gT ∧ ((iy i12_isRule).cls ≠ "java/lang/invoke/MethodHandle" ∧ (iy i12_isRule).cls ≠ "java/lang/invoke/VarHandle" ∧ (parseMethodDescriptor (iy i12_isRule).desc).map (fun d => d.parameters.length) = some 1) := ⟨(gk7 144 rfl rfl), (gk1 13 rfl rfl), nmh_x12.1, nmh_x12.2, pd_12⟩
theorem cb_x12_249 : CB "CallStepsModel" 249 i12_isRule 1 := ⟨(gk7 141 rfl rfl), mb12_isRule⟩
theorem mv12_isRule : Cond.instanceMethod (iy i12_isRule) ∈ gT ∧ Cond.selects (iy i12_isRule).cls (iy i12_isRule) (iy i12_isRule) ∈ gT ∧ vwCl[12]?.map (fun q => q.1) = some (iy i12_isRule).cls := ⟨(gk7 143 rfl rfl), (gp5 14 rfl), rfl⟩
theorem cv_x12_249 : CVw "CallStepsModel" 249 i12_isRule 1 12 := ⟨cb_x12_249, mv12_isRule⟩
theorem fp_x12_131 : FP "CallStepsModel" 131 12 5 0 false .int := ⟨rfl, RX12, TX12, 55, tyX12, ⟨rfl, by decide, (gk6 108 rfl rfl), ing12⟩, tyX12_ok, nmX12, rfl, rfl, rfl⟩
theorem mb12_outsAre : Cond.code (iy i12_outsAre) (ib i12_outsAre) (iL i12_outsAre) (ir i12_outsAre) ∈ gT ∧ Cond.initialized (iy i12_outsAre).cls ∈ gT ∧ ((iy i12_outsAre).cls ≠ "java/lang/invoke/MethodHandle" ∧ (iy i12_outsAre).cls ≠ "java/lang/invoke/VarHandle" ∧ (parseMethodDescriptor (iy i12_outsAre).desc).map (fun d => d.parameters.length) = some 1) := ⟨(gk7 160 rfl rfl), (gk1 13 rfl rfl), nmh_x12.1, nmh_x12.2, pd_0⟩
theorem cb_x12_258 : CB "CallStepsModel" 258 i12_outsAre 1 := ⟨(gk7 157 rfl rfl), mb12_outsAre⟩
theorem mv12_outsAre : Cond.instanceMethod (iy i12_outsAre) ∈ gT ∧ Cond.selects (iy i12_outsAre).cls (iy i12_outsAre) (iy i12_outsAre) ∈ gT ∧ vwCl[12]?.map (fun q => q.1) = some (iy i12_outsAre).cls := ⟨(gk7 159 rfl rfl), (gp6 0 rfl), rfl⟩
theorem cv_x12_258 : CVw "CallStepsModel" 258 i12_outsAre 1 12 := ⟨cb_x12_258, mv12_outsAre⟩
theorem mb12_isFull : Cond.code (iy i12_isFull) (ib i12_isFull) (iL i12_isFull) (ir i12_isFull) ∈ gT ∧ Cond.initialized (iy i12_isFull).cls ∈ gT ∧ ((iy i12_isFull).cls ≠ "java/lang/invoke/MethodHandle" ∧ (iy i12_isFull).cls ≠ "java/lang/invoke/VarHandle" ∧ (parseMethodDescriptor (iy i12_isFull).desc).map (fun d => d.parameters.length) = some 2) := ⟨(gk7 87 rfl rfl), (gk1 13 rfl rfl), nmh_x12.1, nmh_x12.2, pd_13⟩
theorem cb_x12_215 : CB "CallStepsModel" 215 i12_isFull 2 := ⟨(gk7 84 rfl rfl), mb12_isFull⟩
theorem mv12_isFull : Cond.instanceMethod (iy i12_isFull) ∈ gT ∧ Cond.selects (iy i12_isFull).cls (iy i12_isFull) (iy i12_isFull) ∈ gT ∧ vwCl[12]?.map (fun q => q.1) = some (iy i12_isFull).cls := ⟨(gk7 86 rfl rfl), (gp5 4 rfl), rfl⟩
theorem cv_x12_215 : CVw "CallStepsModel" 215 i12_isFull 2 12 := ⟨cb_x12_215, mv12_isFull⟩
theorem mb12_newGoal : Cond.code (iy i12_newGoal) (ib i12_newGoal) (iL i12_newGoal) (ir i12_newGoal) ∈ gT ∧ Cond.initialized (iy i12_newGoal).cls ∈ gT ∧ ((iy i12_newGoal).cls ≠ "java/lang/invoke/MethodHandle" ∧ (iy i12_newGoal).cls ≠ "java/lang/invoke/VarHandle" ∧ (parseMethodDescriptor (iy i12_newGoal).desc).map (fun d => d.parameters.length) = some 0) := ⟨(gk7 124 rfl rfl), (gk1 13 rfl rfl), nmh_x12.1, nmh_x12.2, pd_3⟩
theorem cb_x12_224 : CB "CallStepsModel" 224 i12_newGoal 0 := ⟨(gk7 121 rfl rfl), mb12_newGoal⟩
theorem mv12_newGoal : Cond.instanceMethod (iy i12_newGoal) ∈ gT ∧ Cond.selects (iy i12_newGoal).cls (iy i12_newGoal) (iy i12_newGoal) ∈ gT ∧ vwCl[12]?.map (fun q => q.1) = some (iy i12_newGoal).cls := ⟨(gk7 123 rfl rfl), (gp5 12 rfl), rfl⟩
theorem cv_x12_224 : CVw "CallStepsModel" 224 i12_newGoal 0 12 := ⟨cb_x12_224, mv12_newGoal⟩
theorem mb12_newRule : Cond.code (iy i12_newRule) (ib i12_newRule) (iL i12_newRule) (ir i12_newRule) ∈ gT ∧ Cond.initialized (iy i12_newRule).cls ∈ gT ∧ ((iy i12_newRule).cls ≠ "java/lang/invoke/MethodHandle" ∧ (iy i12_newRule).cls ≠ "java/lang/invoke/VarHandle" ∧ (parseMethodDescriptor (iy i12_newRule).desc).map (fun d => d.parameters.length) = some 0) := ⟨(gk7 116 rfl rfl), (gk1 13 rfl rfl), nmh_x12.1, nmh_x12.2, pd_3⟩
theorem cb_x12_221 : CB "CallStepsModel" 221 i12_newRule 0 := ⟨(gk7 113 rfl rfl), mb12_newRule⟩
theorem mv12_newRule : Cond.instanceMethod (iy i12_newRule) ∈ gT ∧ Cond.selects (iy i12_newRule).cls (iy i12_newRule) (iy i12_newRule) ∈ gT ∧ vwCl[12]?.map (fun q => q.1) = some (iy i12_newRule).cls := ⟨(gk7 115 rfl rfl), (gp5 10 rfl), rfl⟩
theorem cv_x12_221 : CVw "CallStepsModel" 221 i12_newRule 0 12 := ⟨cb_x12_221, mv12_newRule⟩
theorem mb12_newName : Cond.code (iy i12_newName) (ib i12_newName) (iL i12_newName) (ir i12_newName) ∈ gT ∧ Cond.initialized (iy i12_newName).cls ∈ gT ∧ ((iy i12_newName).cls ≠ "java/lang/invoke/MethodHandle" ∧ (iy i12_newName).cls ≠ "java/lang/invoke/VarHandle" ∧ (parseMethodDescriptor (iy i12_newName).desc).map (fun d => d.parameters.length) = some 1) := ⟨(gk7 95 rfl rfl), (gk1 13 rfl rfl), nmh_x12.1, nmh_x12.2, pd_0⟩
theorem cb_x12_218 : CB "CallStepsModel" 218 i12_newName 1 := ⟨(gk7 92 rfl rfl), mb12_newName⟩
theorem mv12_newName : Cond.instanceMethod (iy i12_newName) ∈ gT ∧ Cond.selects (iy i12_newName).cls (iy i12_newName) (iy i12_newName) ∈ gT ∧ vwCl[12]?.map (fun q => q.1) = some (iy i12_newName).cls := ⟨(gk7 94 rfl rfl), (gp5 6 rfl), rfl⟩
theorem cv_x12_218 : CVw "CallStepsModel" 218 i12_newName 1 12 := ⟨cb_x12_218, mv12_newName⟩
theorem mb12_does : Cond.code (iy i12_does) (ib i12_does) (iL i12_does) (ir i12_does) ∈ gT ∧ Cond.initialized (iy i12_does).cls ∈ gT ∧ ((iy i12_does).cls ≠ "java/lang/invoke/MethodHandle" ∧ (iy i12_does).cls ≠ "java/lang/invoke/VarHandle" ∧ (parseMethodDescriptor (iy i12_does).desc).map (fun d => d.parameters.length) = some 1) := ⟨(gk7 199 rfl rfl), (gk1 13 rfl rfl), nmh_x12.1, nmh_x12.2, pd_0⟩
theorem cb_x12_274 : CB "CallStepsModel" 274 i12_does 1 := ⟨(gk7 196 rfl rfl), mb12_does⟩
theorem mv12_does : Cond.instanceMethod (iy i12_does) ∈ gT ∧ Cond.selects (iy i12_does).cls (iy i12_does) (iy i12_does) ∈ gT ∧ vwCl[12]?.map (fun q => q.1) = some (iy i12_does).cls := ⟨(gk7 198 rfl rfl), (gp6 5 rfl), rfl⟩
theorem cv_x12_274 : CVw "CallStepsModel" 274 i12_does 1 12 := ⟨cb_x12_274, mv12_does⟩
theorem kc_x12_277 : Cond.constant "CallStepsModel" 277 (1103515245 : Int32) ∈ gT := (gk7 204 rfl rfl)
theorem mb12_layFar : Cond.code (iy i12_layFar) (ib i12_layFar) (iL i12_layFar) (ir i12_layFar) ∈ gT ∧ Cond.initialized (iy i12_layFar).cls ∈ gT ∧ ((iy i12_layFar).cls ≠ "java/lang/invoke/MethodHandle" ∧ (iy i12_layFar).cls ≠ "java/lang/invoke/VarHandle" ∧ (parseMethodDescriptor (iy i12_layFar).desc).map (fun d => d.parameters.length) = some 0) := ⟨(gk8 217 rfl rfl), (gk1 13 rfl rfl), nmh_x12.1, nmh_x12.2, pd_3⟩
theorem cb_x12_440 : CB "CallStepsModel" 440 i12_layFar 0 := ⟨(gk8 214 rfl rfl), mb12_layFar⟩
theorem mv12_layFar : Cond.instanceMethod (iy i12_layFar) ∈ gT ∧ Cond.selects (iy i12_layFar).cls (iy i12_layFar) (iy i12_layFar) ∈ gT ∧ vwCl[12]?.map (fun q => q.1) = some (iy i12_layFar).cls := ⟨(gk8 216 rfl rfl), (gp8 15 rfl), rfl⟩
theorem cv_x12_440 : CVw "CallStepsModel" 440 i12_layFar 0 12 := ⟨cb_x12_440, mv12_layFar⟩
theorem mb12_readLine : Cond.code (iy i12_readLine) (ib i12_readLine) (iL i12_readLine) (ir i12_readLine) ∈ gT ∧ Cond.initialized (iy i12_readLine).cls ∈ gT ∧ ((iy i12_readLine).cls ≠ "java/lang/invoke/MethodHandle" ∧ (iy i12_readLine).cls ≠ "java/lang/invoke/VarHandle" ∧ (parseMethodDescriptor (iy i12_readLine).desc).map (fun d => d.parameters.length) = some 0) := ⟨(gk7 78 rfl rfl), (gk1 13 rfl rfl), nmh_x12.1, nmh_x12.2, pd_3⟩
theorem cb_x12_230 : CB "CallStepsModel" 230 i12_readLine 0 := ⟨(gk7 75 rfl rfl), mb12_readLine⟩
theorem mv12_readLine : Cond.instanceMethod (iy i12_readLine) ∈ gT ∧ Cond.selects (iy i12_readLine).cls (iy i12_readLine) (iy i12_readLine) ∈ gT ∧ vwCl[12]?.map (fun q => q.1) = some (iy i12_readLine).cls := ⟨(gk7 77 rfl rfl), (gp5 2 rfl), rfl⟩
theorem cv_x12_230 : CVw "CallStepsModel" 230 i12_readLine 0 12 := ⟨cb_x12_230, mv12_readLine⟩
theorem mb12_isWay : Cond.code (iy i12_isWay) (ib i12_isWay) (iL i12_isWay) (ir i12_isWay) ∈ gT ∧ Cond.initialized (iy i12_isWay).cls ∈ gT ∧ ((iy i12_isWay).cls ≠ "java/lang/invoke/MethodHandle" ∧ (iy i12_isWay).cls ≠ "java/lang/invoke/VarHandle" ∧ (parseMethodDescriptor (iy i12_isWay).desc).map (fun d => d.parameters.length) = some 1) := ⟨(gk8 45 rfl rfl), (gk1 13 rfl rfl), nmh_x12.1, nmh_x12.2, pd_29⟩
theorem cb_x12_346 : CB "CallStepsModel" 346 i12_isWay 1 := ⟨(gk8 42 rfl rfl), mb12_isWay⟩
theorem mv12_isWay : Cond.instanceMethod (iy i12_isWay) ∈ gT ∧ Cond.selects (iy i12_isWay).cls (iy i12_isWay) (iy i12_isWay) ∈ gT ∧ vwCl[12]?.map (fun q => q.1) = some (iy i12_isWay).cls := ⟨(gk8 44 rfl rfl), (gp7 4 rfl), rfl⟩
theorem cv_x12_346 : CVw "CallStepsModel" 346 i12_isWay 1 12 := ⟨cb_x12_346, mv12_isWay⟩
