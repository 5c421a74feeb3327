section LAWTABLES
/-- what the claim gives of the start, a list -/
def nlist : List Cond := flatC (Jvm.Cond.and given_1 narrow_1)
/-- the text of number n, where it is named first -/
def repT (n : Nat) : Term := match strs.find? (fun q => q.2.2.2 == n) with
  | some q => .string q.1 q.2.1
  | none => .string "" 0
set_option maxRecDepth 100000 in
theorem sx_ex : ∀ q ∈ strs, Cond.exactly (.string q.1 q.2.1) "java/lang/String" ∈ nlist := List.forall_mem_cons.mpr ⟨List.mem_of_getElem? (i := 11) (by decide +kernel), List.forall_mem_cons.mpr ⟨List.mem_of_getElem? (i := 22) (by decide +kernel), List.forall_mem_cons.mpr ⟨List.mem_of_getElem? (i := 28) (by decide +kernel), List.forall_mem_cons.mpr ⟨List.mem_of_getElem? (i := 76) (by decide +kernel), List.forall_mem_cons.mpr ⟨List.mem_of_getElem? (i := 90) (by decide +kernel), fun _ h => absurd h List.not_mem_nil⟩⟩⟩⟩⟩
set_option maxRecDepth 100000 in
theorem sx_eq : ∀ q ∈ strs, Cond.eq (repT q.2.2.2) (.string q.1 q.2.1) ∈ nlist ∨ repT q.2.2.2 = .string q.1 q.2.1 := List.forall_mem_cons.mpr ⟨Or.inr rfl, List.forall_mem_cons.mpr ⟨Or.inr rfl, List.forall_mem_cons.mpr ⟨Or.inr rfl, List.forall_mem_cons.mpr ⟨Or.inr rfl, List.forall_mem_cons.mpr ⟨Or.inr rfl, fun _ h => absurd h List.not_mem_nil⟩⟩⟩⟩⟩
set_option maxRecDepth 100000 in
theorem sx_co : ∀ n, n < 5 → Cond.eq (.field (repT n) "java/lang/String" "coder" "B") (.int 0) ∈ nlist := by
  intro n hn
  have h : n = 0 ∨ n = 1 ∨ n = 2 ∨ n = 3 ∨ n = 4 := by omega
  rcases h with rfl | rfl | rfl | rfl | rfl
  · exact List.mem_of_getElem? (i := 77) (by decide +kernel)
  · exact List.mem_of_getElem? (i := 91) (by decide +kernel)
  · exact List.mem_of_getElem? (i := 12) (by decide +kernel)
  · exact List.mem_of_getElem? (i := 23) (by decide +kernel)
  · exact List.mem_of_getElem? (i := 29) (by decide +kernel)
set_option maxRecDepth 100000 in
theorem sx_ar : ∀ n, n < 5 → Cond.arrayOf (.field (repT n) "java/lang/String" "value" "[B") .byte ∈ nlist := by
  intro n hn
  have h : n = 0 ∨ n = 1 ∨ n = 2 ∨ n = 3 ∨ n = 4 := by omega
  rcases h with rfl | rfl | rfl | rfl | rfl
  · exact List.mem_of_getElem? (i := 78) (by decide +kernel)
  · exact List.mem_of_getElem? (i := 92) (by decide +kernel)
  · exact List.mem_of_getElem? (i := 13) (by decide +kernel)
  · exact List.mem_of_getElem? (i := 24) (by decide +kernel)
  · exact List.mem_of_getElem? (i := 30) (by decide +kernel)
set_option maxRecDepth 100000 in
theorem sx_le : ∀ n, n < 5 → Cond.eq (.length (.field (repT n) "java/lang/String" "value" "[B")) (.int (Int32.ofNat (txb.getD n []).length)) ∈ nlist := by
  intro n hn
  have h : n = 0 ∨ n = 1 ∨ n = 2 ∨ n = 3 ∨ n = 4 := by omega
  rcases h with rfl | rfl | rfl | rfl | rfl
  · exact List.mem_of_getElem? (i := 79) (by decide +kernel)
  · exact List.mem_of_getElem? (i := 93) (by decide +kernel)
  · exact List.mem_of_getElem? (i := 14) (by decide +kernel)
  · exact List.mem_of_getElem? (i := 25) (by decide +kernel)
  · exact List.mem_of_getElem? (i := 31) (by decide +kernel)
set_option maxRecDepth 100000 in
theorem sx_el : ∀ n, n < 5 → ∀ j, j < (txb.getD n []).length → Cond.eq (.elem (.field (repT n) "java/lang/String" "value" "[B") (.int (Int32.ofNat j))) (.int ((txb.getD n []).getD j 0)) ∈ nlist := by
  intro n hn
  have h : n = 0 ∨ n = 1 ∨ n = 2 ∨ n = 3 ∨ n = 4 := by omega
  rcases h with rfl | rfl | rfl | rfl | rfl
  · have hh : ∀ j, j < 6 → nlist[80 + j]? = some (Cond.eq (.elem (.field (repT 0) "java/lang/String" "value" "[B") (.int (Int32.ofNat j))) (.int ((txb.getD 0 []).getD j 0))) := by decide +kernel
    exact fun j hj => List.mem_of_getElem? (hh j hj)
  · have hh : ∀ j, j < 5 → nlist[94 + j]? = some (Cond.eq (.elem (.field (repT 1) "java/lang/String" "value" "[B") (.int (Int32.ofNat j))) (.int ((txb.getD 1 []).getD j 0))) := by decide +kernel
    exact fun j hj => List.mem_of_getElem? (hh j hj)
  · have hh : ∀ j, j < 7 → nlist[15 + j]? = some (Cond.eq (.elem (.field (repT 2) "java/lang/String" "value" "[B") (.int (Int32.ofNat j))) (.int ((txb.getD 2 []).getD j 0))) := by decide +kernel
    exact fun j hj => List.mem_of_getElem? (hh j hj)
  · have hh : ∀ j, j < 1 → nlist[26 + j]? = some (Cond.eq (.elem (.field (repT 3) "java/lang/String" "value" "[B") (.int (Int32.ofNat j))) (.int ((txb.getD 3 []).getD j 0))) := by decide +kernel
    exact fun j hj => List.mem_of_getElem? (hh j hj)
  · have hh : ∀ j, j < 6 → nlist[32 + j]? = some (Cond.eq (.elem (.field (repT 4) "java/lang/String" "value" "[B") (.int (Int32.ofNat j))) (.int ((txb.getD 4 []).getD j 0))) := by decide +kernel
    exact fun j hj => List.mem_of_getElem? (hh j hj)
set_option maxRecDepth 100000 in
theorem sx_rep : ∀ n, n < 5 → ∃ q ∈ strs, repT n = .string q.1 q.2.1 := by decide +kernel
set_option maxRecDepth 100000 in
theorem sx_27 : ∀ q ∈ strs, q.2.2.2 < 5 := by decide +kernel
set_option maxRecDepth 100000 in
theorem sx_len : ∀ n, n < 5 → (txb.getD n []).length < 2 ^ 31 := by decide +kernel
set_option maxRecDepth 100000 in
theorem sx_sr : ∀ q ∈ strs, Cond.stringRef q.1 q.2.1 q.2.2.1 ∈ tables_1 := List.forall_mem_cons.mpr ⟨by decide +kernel, List.forall_mem_cons.mpr ⟨by decide +kernel, List.forall_mem_cons.mpr ⟨by decide +kernel, List.forall_mem_cons.mpr ⟨by decide +kernel, List.forall_mem_cons.mpr ⟨by decide +kernel, fun _ h => absurd h List.not_mem_nil⟩⟩⟩⟩⟩
variable {s : State} {args : Array Value}
theorem sx_all (hn : ∀ w ∈ nlist, w.before args s = true) (hts : ∀ w ∈ lw_tbl, w.before args s = true) : ∃ adK adV : Nat → Nat, gS adK s ∧ ∀ i : Nat, i < 5 → gT1 (adK i) (adV i) (txb.getD i []) (fun q => s.heap.size ≤ q) s s.heap := by
  have h0 : ∀ n : Nat, ∃ a : Nat, n < 5 → (repT n).eval args s none [] s = some (.ref a) := by
    intro n
    by_cases h : n < 5
    · obtain ⟨q, hq, h2⟩ := sx_rep n h
      obtain ⟨a, c, cA, kA, q1, -⟩ := Cond.exactly_spec (args := args) (first := s) (o := none) (s := s) (idx := []) (hn _ (sx_ex q hq))
      exact ⟨a, fun _ => by rw [h2]; exact q1⟩
    · exact ⟨0, fun h' => absurd h' h⟩
  obtain ⟨adK, hK⟩ := Classical.axiomOfChoice h0
  have hA : ∀ a : Nat, a < s.heap.size → ¬ (fun q : Nat => s.heap.size ≤ q) a := fun a h => Nat.not_le.mpr h
  have hV : ∀ n : Nat, ∃ v : Nat, n < 5 → gT1 (adK n) v (txb.getD n []) (fun q => s.heap.size ≤ q) s s.heap := by
    intro n
    by_cases h : n < 5
    · obtain ⟨q, hq, h2⟩ := sx_rep n (by omega)
      have he := hn _ (sx_ex q hq)
      rw [← h2] at he
      obtain ⟨t, ht, hT⟩ := va_Tof (f := fun j => .int ((txb.getD n []).getD j 0)) (N := (txb.getD n []).length) (sx_len n h) (hn _ (sx_ar n h)) (va_eqt (hn _ (sx_le n h))) (fun j hj => va_eqt (hn _ (sx_el n h j hj))) hA
      exact ⟨t, fun _ => ⟨va_Oof he (hK n (by omega)) hA, vk_OFof (hK n (by omega)) (va_eqt (hn _ (sx_co n h))) hA, vk_OFof (hK n (by omega)) ht hA, hT⟩⟩
    · exact ⟨0, fun h' => absurd h' h⟩
  obtain ⟨adV, hV⟩ := Classical.axiomOfChoice hV
  refine ⟨adK, adV, fun i q hq => ?_, hV⟩
  have hm := List.mem_of_getElem? hq
  have h27 := sx_27 q hm
  refine vk_R.of (hts _ (List.mem_append_right _ (sx_sr q hm))) ?_
  rcases sx_eq q hm with h | h
  · obtain ⟨a, c, cA, kA, q1, -⟩ := Cond.exactly_spec (args := args) (first := s) (o := none) (s := s) (idx := []) (hn _ (sx_ex q hm))
    have h1 := Cond.eq_refs (args := args) (first := s) (out := none) (t := s) (idx := []) (hn _ h) q1 rfl
    rw [hK _ h27] at h1
    have e : adK q.2.2.2 = a := by injection h1 with h1; injection h1
    rw [e]; exact q1
  · rw [← h]; exact hK _ h27
theorem sx_arr {ty : FieldType} (h : (Cond.arrayClass ty).before args s = true) : ∃ cA : ClassId, ArrOfT s cA ty ∧ s.vm.findClass ("[" ++ ty.toString) = some cA := by
  obtain ⟨cA, kA, comp, h1, h2, h3⟩ := Cond.arrayClass_spec (args := args) (first := s) (o := none) (s := s) (idx := []) h
  exact ⟨cA, fun n z => ⟨fun k h => (by cases h), kA, h2, comp, h3⟩, h1⟩
theorem sx_arr2 {ty : FieldType} (h : (Cond.arrayOver (.array ty)).before args s = true) : ∃ cA : ClassId, ArrOfT s cA (.array ty) ∧ s.vm.findClass ("[" ++ (FieldType.array ty).toString) = some cA := by
  obtain ⟨comp, cA, kA, h0, -, h2, h3, h1⟩ := arrayOver_specB (args := args) (first := s) (o := none) (idx := []) h
  exact ⟨cA, fun n z => ⟨fun k h => (by cases h), kA, h2, comp, h3⟩, h1⟩
theorem sx_env (hts : ∀ w ∈ lw_tbl, w.before args s = true) : ∃ (dC : Nat → ClassId) (dI : Nat → Nat → Nat) (cI cJ cZ cK : ClassId), gE dC dI cI cJ cZ cK s := by
  have htg : ∀ w ∈ gw, w.before args s = true := fun w h => hts w (List.mem_filter.mp h).1
  have hti : ∀ w ∈ tables_1, w.before args s = true := fun w h => hts w (List.mem_append_right _ h)
  have h0 : ∀ c : Nat, ∃ x : ClassId × (Nat → Nat), ∀ q : vw_C, vwCl[c]? = some q → u_Kn s q.1 q.2.1 q.2.2 x.1 x.2 := by
    intro c
    by_cases hc : c < 11
    · have hcs : c = 0 ∨ c = 1 ∨ c = 2 ∨ c = 3 ∨ c = 4 ∨ c = 5 ∨ c = 6 ∨ c = 7 ∨ c = 8 ∨ c = 9 ∨ c = 10 := by omega
      rcases hcs with rfl | rfl | rfl | rfl | rfl | rfl | rfl | rfl | rfl | rfl | rfl
      · obtain ⟨a, b, h⟩ := u_known htg inX0 (hti (.instantiable RX0 4) (by decide +kernel))
        exact ⟨(a, b), fun q hq => by cases hq; exact h⟩
      · obtain ⟨a, b, h⟩ := u_known htg inX1 (hti (.instantiable RX1 14) (by decide +kernel))
        exact ⟨(a, b), fun q hq => by cases hq; exact h⟩
      · obtain ⟨a, b, h⟩ := u_known htg inX2 (hti (.instantiable RX2 6) (by decide +kernel))
        exact ⟨(a, b), fun q hq => by cases hq; exact h⟩
      · obtain ⟨a, b, h⟩ := u_known htg inX3 (hti (.instantiable RX3 9) (by decide +kernel))
        exact ⟨(a, b), fun q hq => by cases hq; exact h⟩
      · obtain ⟨a, b, h⟩ := u_known htg inX4 (hti (.instantiable RX4 7) (by decide +kernel))
        exact ⟨(a, b), fun q hq => by cases hq; exact h⟩
      · obtain ⟨a, b, h⟩ := u_known htg inX5 (hti (.instantiable RX5 5) (by decide +kernel))
        exact ⟨(a, b), fun q hq => by cases hq; exact h⟩
      · obtain ⟨a, b, h⟩ := u_known htg inX6 (hti (.instantiable RX6 4) (by decide +kernel))
        exact ⟨(a, b), fun q hq => by cases hq; exact h⟩
      · obtain ⟨a, b, h⟩ := u_known htg inX7 (hti (.instantiable RX7 7) (by decide +kernel))
        exact ⟨(a, b), fun q hq => by cases hq; exact h⟩
      · obtain ⟨a, b, h⟩ := u_known htg inX8 (hti (.instantiable RX8 2) (by decide +kernel))
        exact ⟨(a, b), fun q hq => by cases hq; exact h⟩
      · obtain ⟨a, b, h⟩ := u_known htg inX9 (hti (.instantiable RX9 9) (by decide +kernel))
        exact ⟨(a, b), fun q hq => by cases hq; exact h⟩
      · obtain ⟨a, b, h⟩ := u_known htg inX10 (hti (.instantiable RX10 12) (by decide +kernel))
        exact ⟨(a, b), fun q hq => by cases hq; exact h⟩
    · refine ⟨(0, fun _ => 0), fun q hq => ?_⟩
      have : c < 11 := (List.getElem?_eq_some_iff.mp hq).1
      exact absurd this hc
  obtain ⟨f, hf⟩ := Classical.axiomOfChoice h0
  obtain ⟨cI, i1, i2⟩ := sx_arr (ty := .int) (hti (.arrayClass .int) (by decide +kernel))
  obtain ⟨cJ, j1, j2⟩ := sx_arr (ty := .long) (hti (.arrayClass .long) (by decide +kernel))
  obtain ⟨cZ, z1, z2⟩ := sx_arr2 (ty := .int) (hti (.arrayOver (.array .int)) (by decide +kernel))
  obtain ⟨cK, k1, k2⟩ := sx_arr2 (ty := .long) (hti (.arrayOver (.array .long)) (by decide +kernel))
  refine ⟨fun c => (f c).1, fun c => (f c).2, cI, cJ, cZ, cK, ⟨hf, fun k q hq => ?_⟩, NW.of hts⟩
  have hk : k < 4 := (List.getElem?_eq_some_iff.mp hq).1
  rcases (show k = 0 ∨ k = 1 ∨ k = 2 ∨ k = 3 by omega) with rfl | rfl | rfl | rfl
  · cases hq; exact ⟨i1, i2⟩
  · cases hq; exact ⟨j1, j2⟩
  · cases hq; exact ⟨z1, z2⟩
  · cases hq; exact ⟨k1, k2⟩
theorem sx_enc (v : Int32) : ∃ n : Nat, Int32.ofNat n = v := by
  refine ⟨v.toBitVec.toNat, Int32.toBitVec_inj.mp ?_⟩
  show BitVec.ofNat 32 v.toBitVec.toNat = v.toBitVec
  exact BitVec.eq_of_toNat_eq (by rw [BitVec.toNat_ofNat]; exact Nat.mod_eq_of_lt v.toBitVec.isLt)
set_option maxRecDepth 100000 in
theorem sx_heap {b L : Nat} {xs : Nat → Int32} (hL : L ≤ 260) (hX : va_X b L xs s s.heap) (hbl : b < s.heap.size) (hn : ∀ w ∈ nlist, w.before args s = true) (hts : ∀ w ∈ lw_tbl, w.before args s = true) : ∃ adK adV : Nat → Nat, adV 20 = b ∧ adV 21 ≤ 260 ∧ gH adK adV (fun q => s.heap.size ≤ q) s s.heap := by
  obtain ⟨adK, adV, h1, h2⟩ := sx_all hn hts
  have hti : ∀ w ∈ tables_1, w.before args s = true := fun w h => hts w (List.mem_append_right _ h)
  have hA : ∀ a : Nat, a < s.heap.size → ¬ (fun q : Nat => s.heap.size ≤ q) a := fun a h => Nat.not_le.mpr h
  obtain ⟨en, hen⟩ := Classical.axiomOfChoice (fun j => sx_enc (xs j))
  have hsc : gSc (fun i => if i < 20 then adV i else if i = 20 then b else if i = 21 then L else en (i - 30)) (fun q => s.heap.size ≤ q) s s.heap := by
    obtain ⟨scr, q1, q2, q3, q4, q5⟩ := hX
    refine ⟨⟨scr, q1, q2, q3, ?_, ?_, fun j hj => ?_, hA b hbl⟩, hL⟩
    · show L ≤ _
      omega
    · show scr.slots.size.toInt32 = Int32.ofNat L
      rw [q4]
      first
        | done
        | rfl
    · have hj' : j < L := hj
      rw [q5 j hj']
      have e : (if 30 + j < 20 then adV (30 + j) else if 30 + j = 20 then b else if 30 + j = 21 then L else en (30 + j - 30)) = en j := by
        rw [if_neg (by omega), if_neg (by omega), if_neg (by omega), Nat.add_sub_cancel_left]
      show some (Value.int (xs j)) = some (Value.int (Int32.ofNat (if 30 + j < 20 then adV (30 + j) else if 30 + j = 20 then b else if 30 + j = 21 then L else en (30 + j - 30))))
      rw [e, hen]
  refine ⟨adK, fun i => if i < 20 then adV i else if i = 20 then b else if i = 21 then L else en (i - 30), rfl, hL, hsc, FN.of hts, h1, ⟨va_AOA.of (hti (.arrayOver (.array .int)) (by decide +kernel)), va_AOA.of (hti (.arrayOver (.array .long)) (by decide +kernel))⟩, ?_, ?_, ?_, trivial⟩
  · intro i hi
    show gT1 (adK i) (if i < 20 then adV i else _) _ _ _ _
    rw [if_pos (by omega)]
    exact h2 i hi
  · exact va_Zof (hti (.laysStatic "java/lang/String" "COMPACT_STRINGS" "Z") (by decide +kernel)) (hti (.initialized "java/lang/String") (by decide +kernel)) (va_eqt (hn (.eq (.static "java/lang/String" "COMPACT_STRINGS" "Z") (.int 1)) (by decide +kernel))) hA
  · exact va_Zqof (hti (.laysStatic "jdk/internal/util/Preconditions" "SIOOBE_FORMATTER" "Ljava/util/function/BiFunction;") (by decide +kernel)) (hti (.initialized "jdk/internal/util/Preconditions") (by decide +kernel)) (hn (.isRef (.static "jdk/internal/util/Preconditions" "SIOOBE_FORMATTER" "Ljava/util/function/BiFunction;")) (by decide +kernel)) hA
end LAWTABLES
