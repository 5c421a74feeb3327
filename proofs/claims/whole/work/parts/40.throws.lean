def strs : List (String × Nat × String × Nat) := [("FamilyChart", 96, "the buffer has no such length", 13), ("FamilyChart$TextReader", 39, "person", 0), ("FamilyChart$TextReader", 48, "union", 1), ("FamilyChart", 362, "no such person", 14), ("FamilyChart", 164, "no such property of a person", 15), ("FamilyChart", 367, "no such union", 16), ("FamilyChart", 199, "no such property of a union", 17), ("FamilyChart", 224, "steps are 1 to 15", 18), ("FamilyChart", 369, "no such row", 19), ("FamilyChart", 371, "no such place", 20), ("FamilyChart", 254, "no such property of a box", 21), ("FamilyChart", 275, "no such line or strip", 22), ("FamilyChart", 373, "strips are 10 to 200 wide", 23), ("FamilyChart", 302, "years are 0 to 2100", 24), ("FamilyChart", 329, "rounds are 0 to 5", 25), ("FamilyChart", 353, "the buffer or a query has no such length", 26), ("FamilyChart$QueryReader", 38, "many", 2), ("FamilyChart$QueryReader", 44, "first", 3), ("FamilyChart$QueryReader", 86, "not", 4), ("FamilyChart$QueryReader", 123, "person", 0), ("FamilyChart$QueryReader", 129, "year", 5), ("FamilyChart$QueryReader", 131, "generation", 6), ("FamilyChart$QueryReader", 133, "unions", 7), ("FamilyChart$QueryReader", 135, "children", 8), ("FamilyChart$QueryReader", 137, "ancestors", 9), ("FamilyChart$QueryReader", 139, "descendants", 10), ("FamilyChart$QueryReader", 82, "and", 11), ("FamilyChart$QueryReader", 84, "or", 12), ("FamilyChartModel", 72, "person", 0), ("FamilyChartModel", 74, "year", 5), ("FamilyChartModel", 76, "generation", 6), ("FamilyChartModel", 77, "unions", 7), ("FamilyChartModel", 79, "children", 8), ("FamilyChartModel", 81, "ancestors", 9), ("FamilyChartModel", 83, "descendants", 10), ("FamilyChartModel", 453, "union", 1), ("FamilyChartModel", 508, "first", 3), ("FamilyChartModel", 510, "many", 2), ("FamilyChartModel", 477, "not", 4), ("FamilyChartModel", 491, "and", 11), ("FamilyChartModel", 499, "or", 12)]
/-- the texts that are read: lengths, bytes -/
def txb : List (List Int32) := [[112, 101, 114, 115, 111, 110], [117, 110, 105, 111, 110], [109, 97, 110, 121], [102, 105, 114, 115, 116], [110, 111, 116], [121, 101, 97, 114], [103, 101, 110, 101, 114, 97, 116, 105, 111, 110], [117, 110, 105, 111, 110, 115], [99, 104, 105, 108, 100, 114, 101, 110], [97, 110, 99, 101, 115, 116, 111, 114, 115], [100, 101, 115, 99, 101, 110, 100, 97, 110, 116, 115], [97, 110, 100], [111, 114]]
def excN (k : Nat) : String := if k = 1 then "java/util/NoSuchElementException" else "java/lang/IllegalArgumentException"
def gS (adK : Nat → Nat) (U : State) : Prop := ∀ (i : Nat) (q : String × Nat × String × Nat), strs[i]? = some q → vk_R q.1 q.2.1 q.2.2.1 (adK q.2.2.2) U
def cs_all : List Cond := [.castable "java/lang/IllegalArgumentException" "java/lang/IllegalArgumentException", .castable "java/util/NoSuchElementException" "java/util/NoSuchElementException"]
theorem cs_in : ∀ w ∈ cs_all, w ∈ lw_tbl := by decide +kernel
def CS (U : State) : Prop := ∀ w ∈ cs_all, va_Nw w U
theorem cs_two {w : Cond} (h : w ∈ cs_all) : w = .castable "java/lang/IllegalArgumentException" "java/lang/IllegalArgumentException" ∨ w = .castable "java/util/NoSuchElementException" "java/util/NoSuchElementException" := by
  simpa [cs_all] using h
theorem CS.warm {s U : State} (hW : s.WarmedH U.vm) (h : CS s) : CS U := fun w hw => by
  have h2 := h w hw
  rcases cs_two hw with rfl | rfl <;> exact va_Nw.warmC hW h2
theorem CS.same {u U : State} (e : u.vm = U.vm) (h : CS u) : CS U := fun w hw => by
  have h2 := h w hw
  rcases cs_two hw with rfl | rfl <;> exact va_Nw.same rfl e h2
/-- a text in the heap -/
def gT1 (a v : Nat) (byt : List Int32) (A : Nat → Prop) (U : State) (H : Heap) : Prop :=
  va_O "java/lang/String" a A U H ∧ va_OF "java/lang/String" "coder" "B" (.int 0) a A U H ∧ va_OF "java/lang/String" "value" "[B" (.ref v) a A U H ∧ va_T .byte v byt.length (fun j => .int (byt.getD j 0)) A U H
theorem gT1.moved {a v : Nat} {byt : List Int32} {A : Nat → Prop} {u U : State} {H : Heap} (hvm : u.vm.Alike U.vm) (h : gT1 a v byt A u H) : gT1 a v byt A U H := ⟨h.1.moved hvm, h.2.1.moved hvm, h.2.2.1.moved hvm, h.2.2.2.moved hvm⟩
theorem gT1.kept {a v : Nat} {byt : List Int32} {A : Nat → Prop} {U : State} {H H1 : Heap} (h : gT1 a v byt A U H) (hq : ∀ a : Nat, a < H.size → ¬ A a → H1[a]? = H[a]?) : gT1 a v byt A U H1 := ⟨h.1.kept hq, h.2.1.kept hq, h.2.2.1.kept hq, h.2.2.2.kept hq⟩
theorem gT1.narrow {a v : Nat} {byt : List Int32} {A B : Nat → Prop} {U : State} {H : Heap} (h : gT1 a v byt A U H) (hAB : ∀ q, B q → A q) : gT1 a v byt B U H := ⟨h.1.narrow hAB, h.2.1.narrow hAB, h.2.2.1.narrow hAB, h.2.2.2.narrow hAB⟩
/-- what stays of the heap -/
def gH (adK adV : Nat → Nat) (A : Nat → Prop) (U : State) (H : Heap) : Prop :=
  vx_Zq Bundle.tN "UNASSIGNED_STACK" Bundle.steD A U H ∧ vx_Zq Bundle.tN "SUPPRESSED_SENTINEL" Bundle.listD A U H ∧ gS adK U ∧ CS U ∧ ∀ i : Nat, i < 13 → gT1 (adK i) (adV i) (txb.getD i []) A U H
theorem gH.warm {adK adV : Nat → Nat} {A : Nat → Prop} {s U : State} {H : Heap} (hW : s.WarmedH U.vm) (h : gH adK adV A s H) : gH adK adV A U H :=
  ⟨vx_Zq.moved hW.alike h.1, vx_Zq.moved hW.alike h.2.1, fun i q hq => vk_R.warm hW (h.2.2.1 i q hq), CS.warm hW h.2.2.2.1, fun i hi => (h.2.2.2.2 i hi).moved hW.alike⟩
theorem gH.calling {adK adV : Nat → Nat} {A : Nat → Prop} {U : State} {H : Heap} {g : JFrame} {mk : MethodId} {a : Array Value} (h : gH adK adV A U H) : gH adK adV A (U.calling g mk a) H :=
  ⟨vx_Zq.moved (u := U) (Vm.Alike.refl U.vm) h.1, vx_Zq.moved (u := U) (Vm.Alike.refl U.vm) h.2.1, fun i q hq => vk_R.same (u := U) rfl (h.2.2.1 i q hq), CS.same (u := U) rfl h.2.2.2.1, fun i hi => (h.2.2.2.2 i hi).moved (u := U) (Vm.Alike.refl U.vm)⟩
theorem gH.kept {adK adV : Nat → Nat} {A : Nat → Prop} {U : State} {H H1 : Heap} (h : gH adK adV A U H) (hq : ∀ a : Nat, a < H.size → ¬ A a → H1[a]? = H[a]?) : gH adK adV A U H1 :=
  ⟨vx_Zq.kept h.1 hq, vx_Zq.kept h.2.1 hq, h.2.2.1, h.2.2.2.1, fun i hi => (h.2.2.2.2 i hi).kept hq⟩
theorem gH.narrow {adK adV : Nat → Nat} {A B : Nat → Prop} {U : State} {H : Heap} (h : gH adK adV A U H) (hAB : ∀ q, B q → A q) : gH adK adV B U H :=
  ⟨vx_Zq.narrow h.1 hAB, vx_Zq.narrow h.2.1 hAB, h.2.2.1, h.2.2.2.1, fun i hi => (h.2.2.2.2 i hi).narrow hAB⟩
/-- a start with what stays of the heap -/
def gPreH (dC : Nat → ClassId) (dI : Nat → Nat → Nat) (cI cJ cZ : ClassId) (adK adV : Nat → Nat) (sz : Nat) (wc : va_W) (U : State) : Prop := gPre dC dI cI cJ cZ sz wc U ∧ gH adK adV (va_A wc sz) U U.heap
/-- the contract of a call that throws: the class of number k -/
def gT (l : Launch) (dC : Nat → ClassId) (dI : Nat → Nat → Nat) (cI cJ cZ : ClassId) (adK adV : Nat → Nat) (y : MethodName) (bytes : ByteArray) (maxL : Nat) (ret : Option FieldType) (fr lo : Nat) (As : List Value) (wc : va_W) (k : Nat) : Prop :=
  ∀ sz : Nat, vx_Met l y (uws y bytes maxL ret) ({ frames := fr, cells := 1, slots := 6, locals := lo }) (va_Pc As (gPreH dC dI cI cJ cZ adK adV sz wc)) (fun _ _ _ _ => False) (vx_X (fun _ : Unit => True) (fun E _ t => E = excN k ∧ va_P (dC, dI) vwCl wc t.heap) (va_A wc sz)) 1 6 (va_A wc sz)

def tx_2 : List Cond := vx_atS "FamilyChart" 98 "java/lang/IllegalArgumentException" ["java/lang/RuntimeException", "java/lang/Exception"]
set_option maxRecDepth 100000 in
theorem tx_good_2 : ∀ w ∈ tx_2.filter goodWord, w ∈ gw := by decide +kernel
set_option maxRecDepth 100000 in
theorem tx_cast_2 : ∀ w ∈ tx_2.filter (fun w => !goodWord w), w ∈ cs_all := by decide +kernel
set_option maxRecDepth 100000 in
theorem tx_ot_2 : ∀ w ∈ tx_2, vx_ot w = true := by decide +kernel
def tx_1 : List Cond := vx_atS "FamilyChart" 166 "java/util/NoSuchElementException" ["java/lang/RuntimeException", "java/lang/Exception"]
set_option maxRecDepth 100000 in
theorem tx_good_1 : ∀ w ∈ tx_1.filter goodWord, w ∈ gw := by decide +kernel
set_option maxRecDepth 100000 in
theorem tx_cast_1 : ∀ w ∈ tx_1.filter (fun w => !goodWord w), w ∈ cs_all := by decide +kernel
set_option maxRecDepth 100000 in
theorem tx_ot_1 : ∀ w ∈ tx_1, vx_ot w = true := by decide +kernel
