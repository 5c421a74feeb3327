/-! words of the law's walks -/
theorem vin_lt {i : Int32} {n : Nat} (h : vp_in i n) : i.toNatClampNeg < n := Nat.not_le.mp fun q => h (Or.inr q)
def ge {α : Type} (i : Int32) (n : Nat) (k : Option α) : Option α := if i.toNatClampNeg = n then k else none
theorem ge_s {α : Type} {i : Int32} {n : Nat} {k : Option α} {o : α} (h : ge i n k = some o) : i.toNatClampNeg = n ∧ k = some o := by
  unfold ge at h
  by_cases q : i.toNatClampNeg = n
  · rw [if_pos q] at h; exact ⟨q, h⟩
  · rw [if_neg q] at h; cases h
/-- a call that must not throw -/
def on {α β : Type} (x : Option (Nat ⊕ α)) (k : α → Option β) : Option β := match x with
  | none => none
  | some (.inl _) => none
  | some (.inr a) => k a
theorem on_s {α β : Type} {x : Option (Nat ⊕ α)} {k : α → Option β} {o : β} (h : on x k = some o) : ∃ a, x = some (.inr a) ∧ k a = some o := by
  cases x with
  | none => cases h
  | some a => cases a with
    | inl e => cases h
    | inr a => exact ⟨a, rfl, h⟩
def FV : Nat := 32
set_option maxRecDepth 100000 in
theorem mL_most : mS yL_most cL_most 2 (some .int) 2 := ⟨tw524, tw523, tw0, by decide +kernel, by decide +kernel, by decide +kernel⟩
set_option maxRecDepth 100000 in
theorem mL_cell : mS yL_cell cL_cell 2 (some .int) 2 := ⟨tw528, tw527, tw0, by decide +kernel, by decide +kernel, by decide +kernel⟩
set_option maxRecDepth 100000 in
theorem mL_add : mS yL_add cL_add 4 none 3 := ⟨tw681, tw680, tw0, by decide +kernel, by decide +kernel, by decide +kernel⟩
set_option maxRecDepth 100000 in
theorem mL_number : mS yL_number cL_number 4 none 3 := ⟨tw708, tw707, tw0, by decide +kernel, by decide +kernel, by decide +kernel⟩
set_option maxRecDepth 100000 in
theorem mL_end : mS yL_end cL_end 3 (some .int) 2 := ⟨tw712, tw711, tw0, by decide +kernel, by decide +kernel, by decide +kernel⟩
set_option maxRecDepth 100000 in
theorem mL_drawn : mS yL_drawn cL_drawn 11 (some (.object "FamilyChartLaw$Own")) 2 := ⟨tw531, tw530, tw0, by decide +kernel, by decide +kernel, by decide +kernel⟩
set_option maxRecDepth 100000 in
theorem mL_known : mS yL_known cL_known 4 (some .boolean) 3 := ⟨tw589, tw588, tw0, by decide +kernel, by decide +kernel, by decide +kernel⟩
set_option maxRecDepth 100000 in
theorem mL_can : mS yL_can cL_can 3 (some .boolean) 3 := ⟨tw596, tw595, tw0, by decide +kernel, by decide +kernel, by decide +kernel⟩
set_option maxRecDepth 100000 in
theorem mL_word : mS yL_word cL_word 4 none 3 := ⟨tw630, tw629, tw0, by decide +kernel, by decide +kernel, by decide +kernel⟩
set_option maxRecDepth 100000 in
theorem mL_with : mS yL_with cL_with 4 none 4 := ⟨tw705, tw704, tw0, by decide +kernel, by decide +kernel, by decide +kernel⟩
set_option maxRecDepth 100000 in
theorem mL_name : mS yL_name cL_name 5 none 4 := ⟨tw697, tw696, tw0, by decide +kernel, by decide +kernel, by decide +kernel⟩
set_option maxRecDepth 100000 in
theorem mL_tell : mS yL_tell cL_tell 5 (some .int) 3 := ⟨tw626, tw625, tw0, by decide +kernel, by decide +kernel, by decide +kernel⟩
set_option maxRecDepth 100000 in
theorem mL_act : mS yL_act cL_act 11 (some .int) 3 := ⟨tw912, tw911, tw0, by decide +kernel, by decide +kernel, by decide +kernel⟩
set_option maxRecDepth 100000 in
theorem mL_all : mS yL_all cL_all 4 (some .long) 1 := ⟨tw1120, tw1119, tw0, by decide +kernel, by decide +kernel, by decide +kernel⟩
set_option maxRecDepth 100000 in
theorem mL_isSound : mS yL_isSound cL_isSound 8 (some .boolean) 1 := ⟨tw1183, tw1182, tw0, by decide +kernel, by decide +kernel, by decide +kernel⟩
set_option maxRecDepth 100000 in
theorem mL_isPrinted : mS yL_isPrinted cL_isPrinted 13 (some .boolean) 2 := ⟨tw1266, tw1265, tw0, by decide +kernel, by decide +kernel, by decide +kernel⟩
set_option maxRecDepth 100000 in
theorem mL_isBetter : mS yL_isBetter cL_isBetter 11 (some .boolean) 2 := ⟨tw1356, tw1355, tw0, by decide +kernel, by decide +kernel, by decide +kernel⟩
set_option maxRecDepth 100000 in
theorem mX10_name : mV yX10_name cX10_name 3 (some .char) 2 := ⟨tw701, tw700, (gw_s 14 rfl), tw12, by decide +kernel, by decide +kernel, by decide +kernel⟩
theorem tup30o {T0 T1 T2 T3 T4 T5 T6 T7 T8 T9 T10 T11 T12 T13 T14 T15 T16 T17 T18 T19 T20 T21 T22 T23 T24 T25 T26 T27 T28 T29 : Type} {x0 : T0} {x1 : T1} {x2 : T2} {x3 : T3} {x4 : T4} {x5 : T5} {x6 : T6} {x7 : T7} {x8 : T8} {x9 : T9} {x10 : T10} {x11 : T11} {x12 : T12} {x13 : T13} {x14 : T14} {x15 : T15} {x16 : T16} {x17 : T17} {x18 : T18} {x19 : T19} {x20 : T20} {x21 : T21} {x22 : T22} {x23 : T23} {x24 : T24} {x25 : T25} {x26 : T26} {x27 : T27} {x28 : T28} {x29 : T29} {y0 : T0} {y1 : T1} {y2 : T2} {y3 : T3} {y4 : T4} {y5 : T5} {y6 : T6} {y7 : T7} {y8 : T8} {y9 : T9} {y10 : T10} {y11 : T11} {y12 : T12} {y13 : T13} {y14 : T14} {y15 : T15} {y16 : T16} {y17 : T17} {y18 : T18} {y19 : T19} {y20 : T20} {y21 : T21} {y22 : T22} {y23 : T23} {y24 : T24} {y25 : T25} {y26 : T26} {y27 : T27} {y28 : T28} {y29 : T29} (h : some (x0, x1, x2, x3, x4, x5, x6, x7, x8, x9, x10, x11, x12, x13, x14, x15, x16, x17, x18, x19, x20, x21, x22, x23, x24, x25, x26, x27, x28, x29) = some (y0, y1, y2, y3, y4, y5, y6, y7, y8, y9, y10, y11, y12, y13, y14, y15, y16, y17, y18, y19, y20, y21, y22, y23, y24, y25, y26, y27, y28, y29)) {P : T0 → T1 → T2 → T3 → T4 → T5 → T6 → T7 → T8 → T9 → T10 → T11 → T12 → T13 → T14 → T15 → T16 → T17 → T18 → T19 → T20 → T21 → T22 → T23 → T24 → T25 → T26 → T27 → T28 → T29 → Prop} (k : P x0 x1 x2 x3 x4 x5 x6 x7 x8 x9 x10 x11 x12 x13 x14 x15 x16 x17 x18 x19 x20 x21 x22 x23 x24 x25 x26 x27 x28 x29) : P y0 y1 y2 y3 y4 y5 y6 y7 y8 y9 y10 y11 y12 y13 y14 y15 y16 y17 y18 y19 y20 y21 y22 y23 y24 y25 y26 y27 y28 y29 := by cases h; exact k
theorem tup30e {T0 T1 T2 T3 T4 T5 T6 T7 T8 T9 T10 T11 T12 T13 T14 T15 T16 T17 T18 T19 T20 T21 T22 T23 T24 T25 T26 T27 T28 T29 : Type} {x0 : T0} {x1 : T1} {x2 : T2} {x3 : T3} {x4 : T4} {x5 : T5} {x6 : T6} {x7 : T7} {x8 : T8} {x9 : T9} {x10 : T10} {x11 : T11} {x12 : T12} {x13 : T13} {x14 : T14} {x15 : T15} {x16 : T16} {x17 : T17} {x18 : T18} {x19 : T19} {x20 : T20} {x21 : T21} {x22 : T22} {x23 : T23} {x24 : T24} {x25 : T25} {x26 : T26} {x27 : T27} {x28 : T28} {x29 : T29} {y0 : T0} {y1 : T1} {y2 : T2} {y3 : T3} {y4 : T4} {y5 : T5} {y6 : T6} {y7 : T7} {y8 : T8} {y9 : T9} {y10 : T10} {y11 : T11} {y12 : T12} {y13 : T13} {y14 : T14} {y15 : T15} {y16 : T16} {y17 : T17} {y18 : T18} {y19 : T19} {y20 : T20} {y21 : T21} {y22 : T22} {y23 : T23} {y24 : T24} {y25 : T25} {y26 : T26} {y27 : T27} {y28 : T28} {y29 : T29} (h : (x0, x1, x2, x3, x4, x5, x6, x7, x8, x9, x10, x11, x12, x13, x14, x15, x16, x17, x18, x19, x20, x21, x22, x23, x24, x25, x26, x27, x28, x29) = (y0, y1, y2, y3, y4, y5, y6, y7, y8, y9, y10, y11, y12, y13, y14, y15, y16, y17, y18, y19, y20, y21, y22, y23, y24, y25, y26, y27, y28, y29)) {P : T0 → T1 → T2 → T3 → T4 → T5 → T6 → T7 → T8 → T9 → T10 → T11 → T12 → T13 → T14 → T15 → T16 → T17 → T18 → T19 → T20 → T21 → T22 → T23 → T24 → T25 → T26 → T27 → T28 → T29 → Prop} (k : P x0 x1 x2 x3 x4 x5 x6 x7 x8 x9 x10 x11 x12 x13 x14 x15 x16 x17 x18 x19 x20 x21 x22 x23 x24 x25 x26 x27 x28 x29) : P y0 y1 y2 y3 y4 y5 y6 y7 y8 y9 y10 y11 y12 y13 y14 y15 y16 y17 y18 y19 y20 y21 y22 y23 y24 y25 y26 y27 y28 y29 := by cases h; exact k
theorem tup46o {T0 T1 T2 T3 T4 T5 T6 T7 T8 T9 T10 T11 T12 T13 T14 T15 T16 T17 T18 T19 T20 T21 T22 T23 T24 T25 T26 T27 T28 T29 T30 T31 T32 T33 T34 T35 T36 T37 T38 T39 T40 T41 T42 T43 T44 T45 : Type} {x0 : T0} {x1 : T1} {x2 : T2} {x3 : T3} {x4 : T4} {x5 : T5} {x6 : T6} {x7 : T7} {x8 : T8} {x9 : T9} {x10 : T10} {x11 : T11} {x12 : T12} {x13 : T13} {x14 : T14} {x15 : T15} {x16 : T16} {x17 : T17} {x18 : T18} {x19 : T19} {x20 : T20} {x21 : T21} {x22 : T22} {x23 : T23} {x24 : T24} {x25 : T25} {x26 : T26} {x27 : T27} {x28 : T28} {x29 : T29} {x30 : T30} {x31 : T31} {x32 : T32} {x33 : T33} {x34 : T34} {x35 : T35} {x36 : T36} {x37 : T37} {x38 : T38} {x39 : T39} {x40 : T40} {x41 : T41} {x42 : T42} {x43 : T43} {x44 : T44} {x45 : T45} {y0 : T0} {y1 : T1} {y2 : T2} {y3 : T3} {y4 : T4} {y5 : T5} {y6 : T6} {y7 : T7} {y8 : T8} {y9 : T9} {y10 : T10} {y11 : T11} {y12 : T12} {y13 : T13} {y14 : T14} {y15 : T15} {y16 : T16} {y17 : T17} {y18 : T18} {y19 : T19} {y20 : T20} {y21 : T21} {y22 : T22} {y23 : T23} {y24 : T24} {y25 : T25} {y26 : T26} {y27 : T27} {y28 : T28} {y29 : T29} {y30 : T30} {y31 : T31} {y32 : T32} {y33 : T33} {y34 : T34} {y35 : T35} {y36 : T36} {y37 : T37} {y38 : T38} {y39 : T39} {y40 : T40} {y41 : T41} {y42 : T42} {y43 : T43} {y44 : T44} {y45 : T45} (h : some (x0, x1, x2, x3, x4, x5, x6, x7, x8, x9, x10, x11, x12, x13, x14, x15, x16, x17, x18, x19, x20, x21, x22, x23, x24, x25, x26, x27, x28, x29, x30, x31, x32, x33, x34, x35, x36, x37, x38, x39, x40, x41, x42, x43, x44, x45) = some (y0, y1, y2, y3, y4, y5, y6, y7, y8, y9, y10, y11, y12, y13, y14, y15, y16, y17, y18, y19, y20, y21, y22, y23, y24, y25, y26, y27, y28, y29, y30, y31, y32, y33, y34, y35, y36, y37, y38, y39, y40, y41, y42, y43, y44, y45)) {P : T0 → T1 → T2 → T3 → T4 → T5 → T6 → T7 → T8 → T9 → T10 → T11 → T12 → T13 → T14 → T15 → T16 → T17 → T18 → T19 → T20 → T21 → T22 → T23 → T24 → T25 → T26 → T27 → T28 → T29 → T30 → T31 → T32 → T33 → T34 → T35 → T36 → T37 → T38 → T39 → T40 → T41 → T42 → T43 → T44 → T45 → Prop} (k : P x0 x1 x2 x3 x4 x5 x6 x7 x8 x9 x10 x11 x12 x13 x14 x15 x16 x17 x18 x19 x20 x21 x22 x23 x24 x25 x26 x27 x28 x29 x30 x31 x32 x33 x34 x35 x36 x37 x38 x39 x40 x41 x42 x43 x44 x45) : P y0 y1 y2 y3 y4 y5 y6 y7 y8 y9 y10 y11 y12 y13 y14 y15 y16 y17 y18 y19 y20 y21 y22 y23 y24 y25 y26 y27 y28 y29 y30 y31 y32 y33 y34 y35 y36 y37 y38 y39 y40 y41 y42 y43 y44 y45 := by cases h; exact k
theorem tup46e {T0 T1 T2 T3 T4 T5 T6 T7 T8 T9 T10 T11 T12 T13 T14 T15 T16 T17 T18 T19 T20 T21 T22 T23 T24 T25 T26 T27 T28 T29 T30 T31 T32 T33 T34 T35 T36 T37 T38 T39 T40 T41 T42 T43 T44 T45 : Type} {x0 : T0} {x1 : T1} {x2 : T2} {x3 : T3} {x4 : T4} {x5 : T5} {x6 : T6} {x7 : T7} {x8 : T8} {x9 : T9} {x10 : T10} {x11 : T11} {x12 : T12} {x13 : T13} {x14 : T14} {x15 : T15} {x16 : T16} {x17 : T17} {x18 : T18} {x19 : T19} {x20 : T20} {x21 : T21} {x22 : T22} {x23 : T23} {x24 : T24} {x25 : T25} {x26 : T26} {x27 : T27} {x28 : T28} {x29 : T29} {x30 : T30} {x31 : T31} {x32 : T32} {x33 : T33} {x34 : T34} {x35 : T35} {x36 : T36} {x37 : T37} {x38 : T38} {x39 : T39} {x40 : T40} {x41 : T41} {x42 : T42} {x43 : T43} {x44 : T44} {x45 : T45} {y0 : T0} {y1 : T1} {y2 : T2} {y3 : T3} {y4 : T4} {y5 : T5} {y6 : T6} {y7 : T7} {y8 : T8} {y9 : T9} {y10 : T10} {y11 : T11} {y12 : T12} {y13 : T13} {y14 : T14} {y15 : T15} {y16 : T16} {y17 : T17} {y18 : T18} {y19 : T19} {y20 : T20} {y21 : T21} {y22 : T22} {y23 : T23} {y24 : T24} {y25 : T25} {y26 : T26} {y27 : T27} {y28 : T28} {y29 : T29} {y30 : T30} {y31 : T31} {y32 : T32} {y33 : T33} {y34 : T34} {y35 : T35} {y36 : T36} {y37 : T37} {y38 : T38} {y39 : T39} {y40 : T40} {y41 : T41} {y42 : T42} {y43 : T43} {y44 : T44} {y45 : T45} (h : (x0, x1, x2, x3, x4, x5, x6, x7, x8, x9, x10, x11, x12, x13, x14, x15, x16, x17, x18, x19, x20, x21, x22, x23, x24, x25, x26, x27, x28, x29, x30, x31, x32, x33, x34, x35, x36, x37, x38, x39, x40, x41, x42, x43, x44, x45) = (y0, y1, y2, y3, y4, y5, y6, y7, y8, y9, y10, y11, y12, y13, y14, y15, y16, y17, y18, y19, y20, y21, y22, y23, y24, y25, y26, y27, y28, y29, y30, y31, y32, y33, y34, y35, y36, y37, y38, y39, y40, y41, y42, y43, y44, y45)) {P : T0 → T1 → T2 → T3 → T4 → T5 → T6 → T7 → T8 → T9 → T10 → T11 → T12 → T13 → T14 → T15 → T16 → T17 → T18 → T19 → T20 → T21 → T22 → T23 → T24 → T25 → T26 → T27 → T28 → T29 → T30 → T31 → T32 → T33 → T34 → T35 → T36 → T37 → T38 → T39 → T40 → T41 → T42 → T43 → T44 → T45 → Prop} (k : P x0 x1 x2 x3 x4 x5 x6 x7 x8 x9 x10 x11 x12 x13 x14 x15 x16 x17 x18 x19 x20 x21 x22 x23 x24 x25 x26 x27 x28 x29 x30 x31 x32 x33 x34 x35 x36 x37 x38 x39 x40 x41 x42 x43 x44 x45) : P y0 y1 y2 y3 y4 y5 y6 y7 y8 y9 y10 y11 y12 y13 y14 y15 y16 y17 y18 y19 y20 y21 y22 y23 y24 y25 y26 y27 y28 y29 y30 y31 y32 y33 y34 y35 y36 y37 y38 y39 y40 y41 y42 y43 y44 y45 := by cases h; exact k
