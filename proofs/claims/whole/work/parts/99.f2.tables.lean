section LAWTABLES
/-- what the claim gives of the start, a list -/
def nlist : List Cond := flatC (Jvm.Cond.and given_1 narrow_1)
/-- the text of number n, where it is named first -/
def repT (n : Nat) : Term := match strs.find? (fun q => q.2.2.2 == n) with
  | some q => .string q.1 q.2.1
  | none => .string "" 0
set_option maxRecDepth 100000 in
theorem sx_ex : ∀ q ∈ strs, Cond.exactly (.string q.1 q.2.1) "java/lang/String" ∈ nlist := List.forall_mem_cons.mpr ⟨List.mem_of_getElem? (i := 35) (by decide +kernel), List.forall_mem_cons.mpr ⟨List.mem_of_getElem? (i := 68) (by decide +kernel), List.forall_mem_cons.mpr ⟨List.mem_of_getElem? (i := 78) (by decide +kernel), List.forall_mem_cons.mpr ⟨List.mem_of_getElem? (i := 87) (by decide +kernel), List.forall_mem_cons.mpr ⟨List.mem_of_getElem? (i := 105) (by decide +kernel), List.forall_mem_cons.mpr ⟨List.mem_of_getElem? (i := 137) (by decide +kernel), List.forall_mem_cons.mpr ⟨List.mem_of_getElem? (i := 154) (by decide +kernel), List.forall_mem_cons.mpr ⟨List.mem_of_getElem? (i := 185) (by decide +kernel), List.forall_mem_cons.mpr ⟨List.mem_of_getElem? (i := 206) (by decide +kernel), List.forall_mem_cons.mpr ⟨List.mem_of_getElem? (i := 221) (by decide +kernel), List.forall_mem_cons.mpr ⟨List.mem_of_getElem? (i := 238) (by decide +kernel), List.forall_mem_cons.mpr ⟨List.mem_of_getElem? (i := 267) (by decide +kernel), List.forall_mem_cons.mpr ⟨List.mem_of_getElem? (i := 292) (by decide +kernel), List.forall_mem_cons.mpr ⟨List.mem_of_getElem? (i := 321) (by decide +kernel), List.forall_mem_cons.mpr ⟨List.mem_of_getElem? (i := 344) (by decide +kernel), List.forall_mem_cons.mpr ⟨List.mem_of_getElem? (i := 365) (by decide +kernel), List.forall_mem_cons.mpr ⟨List.mem_of_getElem? (i := 409) (by decide +kernel), List.forall_mem_cons.mpr ⟨List.mem_of_getElem? (i := 417) (by decide +kernel), List.forall_mem_cons.mpr ⟨List.mem_of_getElem? (i := 426) (by decide +kernel), List.forall_mem_cons.mpr ⟨List.mem_of_getElem? (i := 433) (by decide +kernel), List.forall_mem_cons.mpr ⟨List.mem_of_getElem? (i := 444) (by decide +kernel), List.forall_mem_cons.mpr ⟨List.mem_of_getElem? (i := 452) (by decide +kernel), List.forall_mem_cons.mpr ⟨List.mem_of_getElem? (i := 466) (by decide +kernel), List.forall_mem_cons.mpr ⟨List.mem_of_getElem? (i := 476) (by decide +kernel), List.forall_mem_cons.mpr ⟨List.mem_of_getElem? (i := 488) (by decide +kernel), List.forall_mem_cons.mpr ⟨List.mem_of_getElem? (i := 501) (by decide +kernel), List.forall_mem_cons.mpr ⟨List.mem_of_getElem? (i := 516) (by decide +kernel), List.forall_mem_cons.mpr ⟨List.mem_of_getElem? (i := 523) (by decide +kernel), List.forall_mem_cons.mpr ⟨List.mem_of_getElem? (i := 529) (by decide +kernel), List.forall_mem_cons.mpr ⟨List.mem_of_getElem? (i := 541) (by decide +kernel), List.forall_mem_cons.mpr ⟨List.mem_of_getElem? (i := 550) (by decide +kernel), List.forall_mem_cons.mpr ⟨List.mem_of_getElem? (i := 565) (by decide +kernel), List.forall_mem_cons.mpr ⟨List.mem_of_getElem? (i := 576) (by decide +kernel), List.forall_mem_cons.mpr ⟨List.mem_of_getElem? (i := 589) (by decide +kernel), List.forall_mem_cons.mpr ⟨List.mem_of_getElem? (i := 603) (by decide +kernel), List.forall_mem_cons.mpr ⟨List.mem_of_getElem? (i := 619) (by decide +kernel), List.forall_mem_cons.mpr ⟨List.mem_of_getElem? (i := 629) (by decide +kernel), List.forall_mem_cons.mpr ⟨List.mem_of_getElem? (i := 639) (by decide +kernel), List.forall_mem_cons.mpr ⟨List.mem_of_getElem? (i := 648) (by decide +kernel), List.forall_mem_cons.mpr ⟨List.mem_of_getElem? (i := 656) (by decide +kernel), List.forall_mem_cons.mpr ⟨List.mem_of_getElem? (i := 664) (by decide +kernel), fun _ h => absurd h List.not_mem_nil⟩⟩⟩⟩⟩⟩⟩⟩⟩⟩⟩⟩⟩⟩⟩⟩⟩⟩⟩⟩⟩⟩⟩⟩⟩⟩⟩⟩⟩⟩⟩⟩⟩⟩⟩⟩⟩⟩⟩⟩⟩
set_option maxRecDepth 100000 in
theorem sx_eq : ∀ q ∈ strs, Cond.eq (repT q.2.2.2) (.string q.1 q.2.1) ∈ nlist ∨ repT q.2.2.2 = .string q.1 q.2.1 := List.forall_mem_cons.mpr ⟨Or.inr rfl, List.forall_mem_cons.mpr ⟨Or.inr rfl, List.forall_mem_cons.mpr ⟨Or.inr rfl, List.forall_mem_cons.mpr ⟨Or.inr rfl, List.forall_mem_cons.mpr ⟨Or.inr rfl, List.forall_mem_cons.mpr ⟨Or.inr rfl, List.forall_mem_cons.mpr ⟨Or.inr rfl, List.forall_mem_cons.mpr ⟨Or.inr rfl, List.forall_mem_cons.mpr ⟨Or.inr rfl, List.forall_mem_cons.mpr ⟨Or.inr rfl, List.forall_mem_cons.mpr ⟨Or.inr rfl, List.forall_mem_cons.mpr ⟨Or.inr rfl, List.forall_mem_cons.mpr ⟨Or.inr rfl, List.forall_mem_cons.mpr ⟨Or.inr rfl, List.forall_mem_cons.mpr ⟨Or.inr rfl, List.forall_mem_cons.mpr ⟨Or.inr rfl, List.forall_mem_cons.mpr ⟨Or.inr rfl, List.forall_mem_cons.mpr ⟨Or.inr rfl, List.forall_mem_cons.mpr ⟨Or.inr rfl, List.forall_mem_cons.mpr ⟨Or.inl (List.mem_of_getElem? (i := 443) (by decide +kernel)), List.forall_mem_cons.mpr ⟨Or.inr rfl, List.forall_mem_cons.mpr ⟨Or.inr rfl, List.forall_mem_cons.mpr ⟨Or.inr rfl, List.forall_mem_cons.mpr ⟨Or.inr rfl, List.forall_mem_cons.mpr ⟨Or.inr rfl, List.forall_mem_cons.mpr ⟨Or.inr rfl, List.forall_mem_cons.mpr ⟨Or.inr rfl, List.forall_mem_cons.mpr ⟨Or.inr rfl, List.forall_mem_cons.mpr ⟨Or.inl (List.mem_of_getElem? (i := 539) (by decide +kernel)), List.forall_mem_cons.mpr ⟨Or.inl (List.mem_of_getElem? (i := 549) (by decide +kernel)), List.forall_mem_cons.mpr ⟨Or.inl (List.mem_of_getElem? (i := 564) (by decide +kernel)), List.forall_mem_cons.mpr ⟨Or.inl (List.mem_of_getElem? (i := 575) (by decide +kernel)), List.forall_mem_cons.mpr ⟨Or.inl (List.mem_of_getElem? (i := 588) (by decide +kernel)), List.forall_mem_cons.mpr ⟨Or.inl (List.mem_of_getElem? (i := 602) (by decide +kernel)), List.forall_mem_cons.mpr ⟨Or.inl (List.mem_of_getElem? (i := 618) (by decide +kernel)), List.forall_mem_cons.mpr ⟨Or.inl (List.mem_of_getElem? (i := 628) (by decide +kernel)), List.forall_mem_cons.mpr ⟨Or.inl (List.mem_of_getElem? (i := 638) (by decide +kernel)), List.forall_mem_cons.mpr ⟨Or.inl (List.mem_of_getElem? (i := 647) (by decide +kernel)), List.forall_mem_cons.mpr ⟨Or.inl (List.mem_of_getElem? (i := 655) (by decide +kernel)), List.forall_mem_cons.mpr ⟨Or.inl (List.mem_of_getElem? (i := 663) (by decide +kernel)), List.forall_mem_cons.mpr ⟨Or.inl (List.mem_of_getElem? (i := 670) (by decide +kernel)), fun _ h => absurd h List.not_mem_nil⟩⟩⟩⟩⟩⟩⟩⟩⟩⟩⟩⟩⟩⟩⟩⟩⟩⟩⟩⟩⟩⟩⟩⟩⟩⟩⟩⟩⟩⟩⟩⟩⟩⟩⟩⟩⟩⟩⟩⟩⟩
set_option maxRecDepth 100000 in
theorem sx_co : ∀ n, n < 13 → Cond.eq (.field (repT n) "java/lang/String" "coder" "B") (.int 0) ∈ nlist := by
  intro n hn
  have h : n = 0 ∨ n = 1 ∨ n = 2 ∨ n = 3 ∨ n = 4 ∨ n = 5 ∨ n = 6 ∨ n = 7 ∨ n = 8 ∨ n = 9 ∨ n = 10 ∨ n = 11 ∨ n = 12 := by omega
  rcases h with rfl | rfl | rfl | rfl | rfl | rfl | rfl | rfl | rfl | rfl | rfl | rfl | rfl
  · exact List.mem_of_getElem? (i := 69) (by decide +kernel)
  · exact List.mem_of_getElem? (i := 79) (by decide +kernel)
  · exact List.mem_of_getElem? (i := 410) (by decide +kernel)
  · exact List.mem_of_getElem? (i := 418) (by decide +kernel)
  · exact List.mem_of_getElem? (i := 427) (by decide +kernel)
  · exact List.mem_of_getElem? (i := 445) (by decide +kernel)
  · exact List.mem_of_getElem? (i := 453) (by decide +kernel)
  · exact List.mem_of_getElem? (i := 467) (by decide +kernel)
  · exact List.mem_of_getElem? (i := 477) (by decide +kernel)
  · exact List.mem_of_getElem? (i := 489) (by decide +kernel)
  · exact List.mem_of_getElem? (i := 502) (by decide +kernel)
  · exact List.mem_of_getElem? (i := 517) (by decide +kernel)
  · exact List.mem_of_getElem? (i := 524) (by decide +kernel)
set_option maxRecDepth 100000 in
theorem sx_ar : ∀ n, n < 13 → Cond.arrayOf (.field (repT n) "java/lang/String" "value" "[B") .byte ∈ nlist := by
  intro n hn
  have h : n = 0 ∨ n = 1 ∨ n = 2 ∨ n = 3 ∨ n = 4 ∨ n = 5 ∨ n = 6 ∨ n = 7 ∨ n = 8 ∨ n = 9 ∨ n = 10 ∨ n = 11 ∨ n = 12 := by omega
  rcases h with rfl | rfl | rfl | rfl | rfl | rfl | rfl | rfl | rfl | rfl | rfl | rfl | rfl
  · exact List.mem_of_getElem? (i := 70) (by decide +kernel)
  · exact List.mem_of_getElem? (i := 80) (by decide +kernel)
  · exact List.mem_of_getElem? (i := 411) (by decide +kernel)
  · exact List.mem_of_getElem? (i := 419) (by decide +kernel)
  · exact List.mem_of_getElem? (i := 428) (by decide +kernel)
  · exact List.mem_of_getElem? (i := 446) (by decide +kernel)
  · exact List.mem_of_getElem? (i := 454) (by decide +kernel)
  · exact List.mem_of_getElem? (i := 468) (by decide +kernel)
  · exact List.mem_of_getElem? (i := 478) (by decide +kernel)
  · exact List.mem_of_getElem? (i := 490) (by decide +kernel)
  · exact List.mem_of_getElem? (i := 503) (by decide +kernel)
  · exact List.mem_of_getElem? (i := 518) (by decide +kernel)
  · exact List.mem_of_getElem? (i := 525) (by decide +kernel)
set_option maxRecDepth 100000 in
theorem sx_le : ∀ n, n < 13 → Cond.eq (.length (.field (repT n) "java/lang/String" "value" "[B")) (.int (Int32.ofNat (txb.getD n []).length)) ∈ nlist := by
  intro n hn
  have h : n = 0 ∨ n = 1 ∨ n = 2 ∨ n = 3 ∨ n = 4 ∨ n = 5 ∨ n = 6 ∨ n = 7 ∨ n = 8 ∨ n = 9 ∨ n = 10 ∨ n = 11 ∨ n = 12 := by omega
  rcases h with rfl | rfl | rfl | rfl | rfl | rfl | rfl | rfl | rfl | rfl | rfl | rfl | rfl
  · exact List.mem_of_getElem? (i := 71) (by decide +kernel)
  · exact List.mem_of_getElem? (i := 81) (by decide +kernel)
  · exact List.mem_of_getElem? (i := 412) (by decide +kernel)
  · exact List.mem_of_getElem? (i := 420) (by decide +kernel)
  · exact List.mem_of_getElem? (i := 429) (by decide +kernel)
  · exact List.mem_of_getElem? (i := 447) (by decide +kernel)
  · exact List.mem_of_getElem? (i := 455) (by decide +kernel)
  · exact List.mem_of_getElem? (i := 469) (by decide +kernel)
  · exact List.mem_of_getElem? (i := 479) (by decide +kernel)
  · exact List.mem_of_getElem? (i := 491) (by decide +kernel)
  · exact List.mem_of_getElem? (i := 504) (by decide +kernel)
  · exact List.mem_of_getElem? (i := 519) (by decide +kernel)
  · exact List.mem_of_getElem? (i := 526) (by decide +kernel)
set_option maxRecDepth 100000 in
theorem sx_el : ∀ n, n < 13 → ∀ j, j < (txb.getD n []).length → Cond.eq (.elem (.field (repT n) "java/lang/String" "value" "[B") (.int (Int32.ofNat j))) (.int ((txb.getD n []).getD j 0)) ∈ nlist := by
  intro n hn
  have h : n = 0 ∨ n = 1 ∨ n = 2 ∨ n = 3 ∨ n = 4 ∨ n = 5 ∨ n = 6 ∨ n = 7 ∨ n = 8 ∨ n = 9 ∨ n = 10 ∨ n = 11 ∨ n = 12 := by omega
  rcases h with rfl | rfl | rfl | rfl | rfl | rfl | rfl | rfl | rfl | rfl | rfl | rfl | rfl
  · have hh : ∀ j, j < 6 → nlist[72 + j]? = some (Cond.eq (.elem (.field (repT 0) "java/lang/String" "value" "[B") (.int (Int32.ofNat j))) (.int ((txb.getD 0 []).getD j 0))) := by decide +kernel
    exact fun j hj => List.mem_of_getElem? (hh j hj)
  · have hh : ∀ j, j < 5 → nlist[82 + j]? = some (Cond.eq (.elem (.field (repT 1) "java/lang/String" "value" "[B") (.int (Int32.ofNat j))) (.int ((txb.getD 1 []).getD j 0))) := by decide +kernel
    exact fun j hj => List.mem_of_getElem? (hh j hj)
  · have hh : ∀ j, j < 4 → nlist[413 + j]? = some (Cond.eq (.elem (.field (repT 2) "java/lang/String" "value" "[B") (.int (Int32.ofNat j))) (.int ((txb.getD 2 []).getD j 0))) := by decide +kernel
    exact fun j hj => List.mem_of_getElem? (hh j hj)
  · have hh : ∀ j, j < 5 → nlist[421 + j]? = some (Cond.eq (.elem (.field (repT 3) "java/lang/String" "value" "[B") (.int (Int32.ofNat j))) (.int ((txb.getD 3 []).getD j 0))) := by decide +kernel
    exact fun j hj => List.mem_of_getElem? (hh j hj)
  · have hh : ∀ j, j < 3 → nlist[430 + j]? = some (Cond.eq (.elem (.field (repT 4) "java/lang/String" "value" "[B") (.int (Int32.ofNat j))) (.int ((txb.getD 4 []).getD j 0))) := by decide +kernel
    exact fun j hj => List.mem_of_getElem? (hh j hj)
  · have hh : ∀ j, j < 4 → nlist[448 + j]? = some (Cond.eq (.elem (.field (repT 5) "java/lang/String" "value" "[B") (.int (Int32.ofNat j))) (.int ((txb.getD 5 []).getD j 0))) := by decide +kernel
    exact fun j hj => List.mem_of_getElem? (hh j hj)
  · have hh : ∀ j, j < 10 → nlist[456 + j]? = some (Cond.eq (.elem (.field (repT 6) "java/lang/String" "value" "[B") (.int (Int32.ofNat j))) (.int ((txb.getD 6 []).getD j 0))) := by decide +kernel
    exact fun j hj => List.mem_of_getElem? (hh j hj)
  · have hh : ∀ j, j < 6 → nlist[470 + j]? = some (Cond.eq (.elem (.field (repT 7) "java/lang/String" "value" "[B") (.int (Int32.ofNat j))) (.int ((txb.getD 7 []).getD j 0))) := by decide +kernel
    exact fun j hj => List.mem_of_getElem? (hh j hj)
  · have hh : ∀ j, j < 8 → nlist[480 + j]? = some (Cond.eq (.elem (.field (repT 8) "java/lang/String" "value" "[B") (.int (Int32.ofNat j))) (.int ((txb.getD 8 []).getD j 0))) := by decide +kernel
    exact fun j hj => List.mem_of_getElem? (hh j hj)
  · have hh : ∀ j, j < 9 → nlist[492 + j]? = some (Cond.eq (.elem (.field (repT 9) "java/lang/String" "value" "[B") (.int (Int32.ofNat j))) (.int ((txb.getD 9 []).getD j 0))) := by decide +kernel
    exact fun j hj => List.mem_of_getElem? (hh j hj)
  · have hh : ∀ j, j < 11 → nlist[505 + j]? = some (Cond.eq (.elem (.field (repT 10) "java/lang/String" "value" "[B") (.int (Int32.ofNat j))) (.int ((txb.getD 10 []).getD j 0))) := by decide +kernel
    exact fun j hj => List.mem_of_getElem? (hh j hj)
  · have hh : ∀ j, j < 3 → nlist[520 + j]? = some (Cond.eq (.elem (.field (repT 11) "java/lang/String" "value" "[B") (.int (Int32.ofNat j))) (.int ((txb.getD 11 []).getD j 0))) := by decide +kernel
    exact fun j hj => List.mem_of_getElem? (hh j hj)
  · have hh : ∀ j, j < 2 → nlist[527 + j]? = some (Cond.eq (.elem (.field (repT 12) "java/lang/String" "value" "[B") (.int (Int32.ofNat j))) (.int ((txb.getD 12 []).getD j 0))) := by decide +kernel
    exact fun j hj => List.mem_of_getElem? (hh j hj)
set_option maxRecDepth 100000 in
theorem sx_rep : ∀ n, n < 27 → ∃ q ∈ strs, repT n = .string q.1 q.2.1 := by decide +kernel
set_option maxRecDepth 100000 in
theorem sx_27 : ∀ q ∈ strs, q.2.2.2 < 27 := by decide +kernel
set_option maxRecDepth 100000 in
theorem sx_len : ∀ n, n < 13 → (txb.getD n []).length < 2 ^ 31 := by decide +kernel
set_option maxRecDepth 100000 in
theorem sx_sr : ∀ q ∈ strs, Cond.stringRef q.1 q.2.1 q.2.2.1 ∈ tables_1 := List.forall_mem_cons.mpr ⟨by decide +kernel, List.forall_mem_cons.mpr ⟨by decide +kernel, List.forall_mem_cons.mpr ⟨by decide +kernel, List.forall_mem_cons.mpr ⟨by decide +kernel, List.forall_mem_cons.mpr ⟨by decide +kernel, List.forall_mem_cons.mpr ⟨by decide +kernel, List.forall_mem_cons.mpr ⟨by decide +kernel, List.forall_mem_cons.mpr ⟨by decide +kernel, List.forall_mem_cons.mpr ⟨by decide +kernel, List.forall_mem_cons.mpr ⟨by decide +kernel, List.forall_mem_cons.mpr ⟨by decide +kernel, List.forall_mem_cons.mpr ⟨by decide +kernel, List.forall_mem_cons.mpr ⟨by decide +kernel, List.forall_mem_cons.mpr ⟨by decide +kernel, List.forall_mem_cons.mpr ⟨by decide +kernel, List.forall_mem_cons.mpr ⟨by decide +kernel, List.forall_mem_cons.mpr ⟨by decide +kernel, List.forall_mem_cons.mpr ⟨by decide +kernel, List.forall_mem_cons.mpr ⟨by decide +kernel, List.forall_mem_cons.mpr ⟨by decide +kernel, List.forall_mem_cons.mpr ⟨by decide +kernel, List.forall_mem_cons.mpr ⟨by decide +kernel, List.forall_mem_cons.mpr ⟨by decide +kernel, List.forall_mem_cons.mpr ⟨by decide +kernel, List.forall_mem_cons.mpr ⟨by decide +kernel, List.forall_mem_cons.mpr ⟨by decide +kernel, List.forall_mem_cons.mpr ⟨by decide +kernel, List.forall_mem_cons.mpr ⟨by decide +kernel, List.forall_mem_cons.mpr ⟨by decide +kernel, List.forall_mem_cons.mpr ⟨by decide +kernel, List.forall_mem_cons.mpr ⟨by decide +kernel, List.forall_mem_cons.mpr ⟨by decide +kernel, List.forall_mem_cons.mpr ⟨by decide +kernel, List.forall_mem_cons.mpr ⟨by decide +kernel, List.forall_mem_cons.mpr ⟨by decide +kernel, List.forall_mem_cons.mpr ⟨by decide +kernel, List.forall_mem_cons.mpr ⟨by decide +kernel, List.forall_mem_cons.mpr ⟨by decide +kernel, List.forall_mem_cons.mpr ⟨by decide +kernel, List.forall_mem_cons.mpr ⟨by decide +kernel, List.forall_mem_cons.mpr ⟨by decide +kernel, fun _ h => absurd h List.not_mem_nil⟩⟩⟩⟩⟩⟩⟩⟩⟩⟩⟩⟩⟩⟩⟩⟩⟩⟩⟩⟩⟩⟩⟩⟩⟩⟩⟩⟩⟩⟩⟩⟩⟩⟩⟩⟩⟩⟩⟩⟩⟩
variable {s : State} {args : Array Value}
theorem sx_all (hn : ∀ w ∈ nlist, w.before args s = true) (hts : ∀ w ∈ lw_tbl, w.before args s = true) : ∃ adK adV : Nat → Nat, gS adK s ∧ ∀ i : Nat, i < 13 → gT1 (adK i) (adV i) (txb.getD i []) (fun q => s.heap.size ≤ q) s s.heap := by
  have h0 : ∀ n : Nat, ∃ a : Nat, n < 27 → (repT n).eval args s none [] s = some (.ref a) := by
    intro n
    by_cases h : n < 27
    · obtain ⟨q, hq, h2⟩ := sx_rep n h
      obtain ⟨a, c, cA, kA, q1, -⟩ := Cond.exactly_spec (args := args) (first := s) (o := none) (s := s) (idx := []) (hn _ (sx_ex q hq))
      exact ⟨a, fun _ => by rw [h2]; exact q1⟩
    · exact ⟨0, fun h' => absurd h' h⟩
  obtain ⟨adK, hK⟩ := Classical.axiomOfChoice h0
  have hA : ∀ a : Nat, a < s.heap.size → ¬ (fun q : Nat => s.heap.size ≤ q) a := fun a h => Nat.not_le.mpr h
  have hV : ∀ n : Nat, ∃ v : Nat, n < 13 → gT1 (adK n) v (txb.getD n []) (fun q => s.heap.size ≤ q) s s.heap := by
    intro n
    by_cases h : n < 13
    · obtain ⟨q, hq, h2⟩ := sx_rep n (by omega)
      have he := hn _ (sx_ex q hq)
      rw [← h2] at he
      obtain ⟨t, ht, hT⟩ := va_Tof (f := fun j => .int ((txb.getD n []).getD j 0)) (N := (txb.getD n []).length) (sx_len n h) (hn _ (sx_ar n h)) (va_eqt (hn _ (sx_le n h))) (fun j hj => va_eqt (hn _ (sx_el n h j hj))) hA
      exact ⟨t, fun _ => ⟨va_Oof he (hK n (by omega)) hA, vk_OFof (hK n (by omega)) (va_eqt (hn _ (sx_co n h))) hA, vk_OFof (hK n (by omega)) ht hA, hT⟩⟩
    · exact ⟨0, fun h' => absurd h' h⟩
  obtain ⟨adV, hV⟩ := Classical.axiomOfChoice hV
  refine ⟨adK, adV, fun i q hq => ?_, hV⟩
  have hm := List.mem_of_getElem? hq
  have h27 := sx_27 q hm
  refine vk_R.of (hts _ (List.mem_append_right _ (sx_sr q hm))) ?_
  rcases sx_eq q hm with h | h
  · obtain ⟨a, c, cA, kA, q1, -⟩ := Cond.exactly_spec (args := args) (first := s) (o := none) (s := s) (idx := []) (hn _ (sx_ex q hm))
    have h1 := Cond.eq_refs (args := args) (first := s) (out := none) (t := s) (idx := []) (hn _ h) q1 rfl
    rw [hK _ h27] at h1
    have e : adK q.2.2.2 = a := by injection h1 with h1; injection h1
    rw [e]; exact q1
  · rw [← h]; exact hK _ h27
theorem sx_arr {ty : FieldType} (h : (Cond.arrayClass ty).before args s = true) : ∃ cA : ClassId, ArrOfT s cA ty ∧ s.vm.findClass ("[" ++ ty.toString) = some cA := by
  obtain ⟨cA, kA, comp, h1, h2, h3⟩ := Cond.arrayClass_spec (args := args) (first := s) (o := none) (s := s) (idx := []) h
  exact ⟨cA, fun n z => ⟨fun k h => (by cases h), kA, h2, comp, h3⟩, h1⟩
theorem sx_env (hts : ∀ w ∈ lw_tbl, w.before args s = true) : ∃ (dC : Nat → ClassId) (dI : Nat → Nat → Nat) (cI cJ cZ : ClassId), gE dC dI cI cJ cZ s := by
  have htg : ∀ w ∈ gw, w.before args s = true := fun w h => hts w (List.mem_filter.mp h).1
  have hti : ∀ w ∈ tables_1, w.before args s = true := fun w h => hts w (List.mem_append_right _ h)
  have h0 : ∀ c : Nat, ∃ x : ClassId × (Nat → Nat), ∀ q : vw_C, vwCl[c]? = some q → u_Kn s q.1 q.2.1 q.2.2 x.1 x.2 := by
    intro c
    by_cases hc : c < 11
    · have hcs : c = 0 ∨ c = 1 ∨ c = 2 ∨ c = 3 ∨ c = 4 ∨ c = 5 ∨ c = 6 ∨ c = 7 ∨ c = 8 ∨ c = 9 ∨ c = 10 := by omega
      rcases hcs with rfl | rfl | rfl | rfl | rfl | rfl | rfl | rfl | rfl | rfl | rfl
      · obtain ⟨a, b, h⟩ := u_known htg inX0 (htg _ tw228)
        exact ⟨(a, b), fun q hq => by cases hq; exact h⟩
      · obtain ⟨a, b, h⟩ := u_known htg inX1 (htg _ tw75)
        exact ⟨(a, b), fun q hq => by cases hq; exact h⟩
      · obtain ⟨a, b, h⟩ := u_known htg inX2 (hti (.instantiable RX2 6) (by decide +kernel))
        exact ⟨(a, b), fun q hq => by cases hq; exact h⟩
      · obtain ⟨a, b, h⟩ := u_known htg inX3 (htg _ tw32)
        exact ⟨(a, b), fun q hq => by cases hq; exact h⟩
      · obtain ⟨a, b, h⟩ := u_known htg inX4 (hti (.instantiable RX4 7) (by decide +kernel))
        exact ⟨(a, b), fun q hq => by cases hq; exact h⟩
      · obtain ⟨a, b, h⟩ := u_known htg inX5 (hti (.instantiable RX5 5) (by decide +kernel))
        exact ⟨(a, b), fun q hq => by cases hq; exact h⟩
      · obtain ⟨a, b, h⟩ := u_known htg inX6 (htg _ tw177)
        exact ⟨(a, b), fun q hq => by cases hq; exact h⟩
      · obtain ⟨a, b, h⟩ := u_known htg inX7 (htg _ tw197)
        exact ⟨(a, b), fun q hq => by cases hq; exact h⟩
      · obtain ⟨a, b, h⟩ := u_known htg inX8 (hti (.instantiable RX8 2) (by decide +kernel))
        exact ⟨(a, b), fun q hq => by cases hq; exact h⟩
      · obtain ⟨a, b, h⟩ := u_known htg inX9 (hti (.instantiable RX9 9) (by decide +kernel))
        exact ⟨(a, b), fun q hq => by cases hq; exact h⟩
      · obtain ⟨a, b, h⟩ := u_known htg inX10 (hti (.instantiable RX10 37) (by decide +kernel))
        exact ⟨(a, b), fun q hq => by cases hq; exact h⟩
    · refine ⟨(0, fun _ => 0), fun q hq => ?_⟩
      have : c < 11 := (List.getElem?_eq_some_iff.mp hq).1
      exact absurd this hc
  obtain ⟨f, hf⟩ := Classical.axiomOfChoice h0
  obtain ⟨cI, i1, i2⟩ := sx_arr (ty := .int) (hti (.arrayClass .int) (by decide +kernel))
  obtain ⟨cJ, j1, j2⟩ := sx_arr (ty := .long) (hti (.arrayClass .long) (by decide +kernel))
  obtain ⟨cZ, z1, z2⟩ := sx_arr (ty := .boolean) (hti (.arrayClass .boolean) (by decide +kernel))
  refine ⟨fun c => (f c).1, fun c => (f c).2, cI, cJ, cZ, ⟨hf, fun k q hq => ?_⟩, NW.of hts⟩
  have hk : k < 3 := (List.getElem?_eq_some_iff.mp hq).1
  rcases (show k = 0 ∨ k = 1 ∨ k = 2 by omega) with rfl | rfl | rfl
  · cases hq; exact ⟨i1, i2⟩
  · cases hq; exact ⟨j1, j2⟩
  · cases hq; exact ⟨z1, z2⟩
set_option maxRecDepth 100000 in
theorem sx_heap (hn : ∀ w ∈ nlist, w.before args s = true) (hts : ∀ w ∈ lw_tbl, w.before args s = true) : ∃ adK adV : Nat → Nat, gH adK adV (fun q => s.heap.size ≤ q) s s.heap := by
  obtain ⟨adK, adV, h1, h2⟩ := sx_all hn hts
  have hti : ∀ w ∈ tables_1, w.before args s = true := fun w h => hts w (List.mem_append_right _ h)
  have hA : ∀ a : Nat, a < s.heap.size → ¬ (fun q : Nat => s.heap.size ≤ q) a := fun a h => Nat.not_le.mpr h
  refine ⟨adK, fun i => if i = 14 then 0 else adV i, ?_, ?_, h1, ?_, ?_, ?_, ?_, ?_⟩
  · exact vx_Zqof (hti (.laysStatic Bundle.tN "UNASSIGNED_STACK" Bundle.steD) (by decide +kernel)) (hti (.initialized Bundle.tN) (by decide +kernel)) (hn (.isRef (.static Bundle.tN "UNASSIGNED_STACK" Bundle.steD)) (by decide +kernel)) hA
  · exact vx_Zqof (hti (.laysStatic Bundle.tN "SUPPRESSED_SENTINEL" Bundle.listD) (by decide +kernel)) (hti (.initialized Bundle.tN) (by decide +kernel)) (hn (.isRef (.static Bundle.tN "SUPPRESSED_SENTINEL" Bundle.listD)) (by decide +kernel)) hA
  · intro w hw
    exact va_Nw.of (by rcases cs_two hw with rfl | rfl <;> rfl) (hts w (cs_in w hw))
  · intro i hi
    have e : (if i = 14 then 0 else adV i) = adV i := if_neg (by omega)
    show gT1 (adK i) (if i = 14 then 0 else adV i) _ _ _ _
    rw [e]
    exact h2 i hi
  · exact va_Zof (hti (.laysStatic "java/lang/String" "COMPACT_STRINGS" "Z") (by decide +kernel)) (hti (.initialized "java/lang/String") (by decide +kernel)) (va_eqt (hn (.eq (.static "java/lang/String" "COMPACT_STRINGS" "Z") (.int 1)) (by decide +kernel))) hA
  · exact va_Zqof (hti (.laysStatic "jdk/internal/util/Preconditions" "SIOOBE_FORMATTER" "Ljava/util/function/BiFunction;") (by decide +kernel)) (hti (.initialized "jdk/internal/util/Preconditions") (by decide +kernel)) (hn (.isRef (.static "jdk/internal/util/Preconditions" "SIOOBE_FORMATTER" "Ljava/util/function/BiFunction;")) (by decide +kernel)) hA
  · intro h
    have h' : (0 : Nat) = 1 := h
    exact absurd h' (by decide)
end LAWTABLES
